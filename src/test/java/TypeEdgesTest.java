/** Promises 1 and 2 at their edges: a method for each sentence that names one. */
public final class TypeEdgesTest {
  private static final Due due = new Due("TypeEdgesTest");

  private static final int PAIR = 0;
  private static final int EXP = 1;
  private static final int NAME = 2;
  private static final int LEAST = Integer.MIN_VALUE;
  private static final int MOST = Integer.MAX_VALUE;

  public static void main(String[] args) {
    aNewObjectHasTwoTypes();
    aNewObjectHasAnEmptyStack();
    aNewObjectHasItsProgram();
    aNewObjectIsItsOwn();
    kindsAreZeroToTwo();
    namesAreZeroToTwo();
    partsArePresentTypes();
    bIsLookedAtForPairsAlone();
    builtAlikeHaveOneNumber();
    atMostTwentyFour();
    aTwentyFifthOfEachKind();
    fullIsNoBarForWhatIsThere();
    whatIsNotSaidBeforeNoRoom();
    heightIsAtMostFour();
    heightIsOfTheGreatestPart();
    whatHasNoRoomIsNotMade();
    due.end();
  }

  private static RigidCases withNumbers(int count) {
    RigidCases x = new RigidCases();
    fill(x, count);
    return x;
  }

  /** Makes types until there are so many: names, and pairs of INT, BOOL and the names. */
  private static void fill(RigidCases x, int count) {
    int made = 2;
    for (int name = 0; name < 3 && made < count; name++) {
      due.is("filling with name " + name, x.type(NAME, name, 0), made++);
    }
    for (int k = 0; k < 25 && made < count; k++) {
      due.is("filling with pair " + k, x.type(PAIR, k / 5, k % 5), made++);
    }
  }

  /** Promise 1: "Types INT and BOOL". */
  private static void aNewObjectHasTwoTypes() {
    int[] types = {LEAST, -1, 0, 1, 2, 23, 24, MOST};
    for (int type : types) {
      boolean there = type == 0 || type == 1;
      RigidCases x = new RigidCases();
      due.is("new: exp of " + type, x.type(EXP, type, 0), there ? 2 : -1);
      x = new RigidCases();
      x.make(0, 0);
      due.is("new: as " + type, x.make(10, type), there ? 2 : -1);
      due.is("new: main of " + type, x.main(type), there);
    }
    RigidCases x = new RigidCases();
    Text.main(x, "n3", 0);
    due.is("new: type 0 is INT", x.check(), 0);
    Text.main(x, "t1", 1);
    due.is("new: type 1 is BOOL", x.check(), 0);
    Text.main(x, "t1", 0);
    due.is("new: INT is not BOOL", x.check(), 2);
  }

  /** Promise 1: "an empty stack". */
  private static void aNewObjectHasAnEmptyStack() {
    RigidCases x = new RigidCases();
    due.is("new: height", x.height(), 0);
    due.is("new: drop", x.drop(), -1);
    due.is("new: function", x.function(0), false);
    due.is("new: main", x.main(0), false);
    due.is("new: an operation with a part", x.make(11, 0), -1);
    due.is("new: the first term", x.make(0, 0), 1);
    due.is("new: height with it", x.height(), 1);
  }

  /** Promise 1: "the body and the main term are NUMBER 0, the result and the main type INT". */
  private static void aNewObjectHasItsProgram() {
    RigidCases x = new RigidCases();
    due.is("new: check", x.check(), 0);
    due.is("new: evaluate", x.evaluate(), 0);
    due.is("new: value(0)", x.value(0), 1000);
    due.is("new: number(0)", x.number(0), 0);
    due.is("new: value(1)", x.value(1), -1);
    due.is("new: steps", x.steps(), 1);
    Text.main(x, "t1 bit call", 0);
    due.is("new: the result is INT", x.check(), 0);
    due.is("new: evaluate a call", x.evaluate(), 0);
    due.is("new: the body is a number", x.value(0), 1000);
    due.is("new: the body is 0", x.number(0), 0);
    Text.main(x, "t1 bit call", 1);
    due.is("new: the result is not BOOL", x.check(), 2);
    RigidCases y = new RigidCases();
    Text.function(y, "n1", 0);
    due.is("new: the main type is INT, whatever the body", y.check(), 0);
  }

  /** What is done with one object is nothing to another, made before or after. */
  private static void aNewObjectIsItsOwn() {
    RigidCases before = new RigidCases();
    RigidCases x = withNumbers(24);
    Text.function(x, "n1 lit", 0);
    Text.main(x, "t1 n1 both", 1);
    x.evaluate();
    x.check();
    Text.make(x, "n1 n2 n3");
    for (RigidCases other : new RigidCases[] {before, new RigidCases()}) {
      due.is("another's height", other.height(), 0);
      due.is("another's steps", other.steps(), 0);
      due.is("another's row", other.value(0), -1);
      due.is("another's check", other.check(), 0);
      due.is("another's first type", other.type(EXP, 1, 0), 2);
      due.is("another's evaluate", other.evaluate(), 0);
      due.is("another's value", other.value(0), 1000);
    }
    due.is("its types are as they were", x.type(EXP, 0, 0), -2);
    due.is("its stack is as it was", x.height(), 3);
    due.is("its value is as it was", x.value(0), 1003);
  }

  /** Promise 2: "kind 0 PAIR of a and b, 1 EXP of a, 2 NAME a", "BAD when kind is not so". */
  private static void kindsAreZeroToTwo() {
    int[] kinds = {LEAST, -2, -1, 0, 1, 2, 3, 4, 5, MOST};
    for (int kind : kinds) {
      RigidCases x = new RigidCases();
      boolean so = kind >= 0 && kind <= 2;
      due.is("kind " + kind, x.type(kind, 1, 1), so ? 2 : -1);
      due.is("the next after kind " + kind, x.type(EXP, 0, 0), so ? 3 : 2);
      if (!so) {
        Alike.are(due, "refused kind " + kind, refused(kind, 1, 1, -1), new RigidCases());
      }
    }
  }

  private static RigidCases refused(int kind, int a, int b, int answer) {
    RigidCases x = new RigidCases();
    due.is("type(" + kind + ", " + a + ", " + b + ")", x.type(kind, a, b), answer);
    return x;
  }

  /** TYPES: "a NAME 0 .. 2"; promise 2: "BAD when .. there is no such .. name". */
  private static void namesAreZeroToTwo() {
    int[] names = {LEAST, -1, 3, 24, MOST};
    for (int name : names) {
      Alike.are(due, "refused name " + name, refused(NAME, name, 0, -1), new RigidCases());
    }
    RigidCases x = new RigidCases();
    due.is("name 2", x.type(NAME, 2, 0), 2);
    due.is("name 0", x.type(NAME, 0, 0), 3);
    due.is("name 1", x.type(NAME, 1, 0), 4);
    due.is("name 3 when there is a type 3", x.type(NAME, 3, 0), -1);
  }

  /** Promise 2: "BAD when .. there is no such type": as a part, on both sides of those there. */
  private static void partsArePresentTypes() {
    for (int count = 2; count <= 23; count += 7) {
      int[] parts = {LEAST, -1, 0, count - 1, count, count + 1, MOST};
      for (int part : parts) {
        boolean there = part >= 0 && part < count;
        int answer = there ? count : -1;
        due.is("exp of " + part, withNumbers(count).type(EXP, part, 0), answer);
        boolean pairIsThere = there && count > 5;
        if (!pairIsThere) {
          due.is("pair of " + part, withNumbers(count).type(PAIR, part, 0), answer);
          due.is("pair and " + part, withNumbers(count).type(PAIR, 0, part), answer);
        }
        RigidCases x = withNumbers(count);
        if (!there) {
          due.is("exp of none", x.type(EXP, part, 0), -1);
          due.is("pair of none", x.type(PAIR, part, 1), -1);
          due.is("pair and none", x.type(PAIR, 1, part), -1);
          Alike.are(due, "refused part " + part + " of " + count, x, withNumbers(count));
        }
      }
    }
  }

  /** Promise 2: "(b is looked at for pairs alone)". */
  private static void bIsLookedAtForPairsAlone() {
    int[] others = {LEAST, -1, 0, 1, 2, 24, MOST};
    RigidCases x = new RigidCases();
    for (int b : others) {
      due.is("exp, b " + b, x.type(EXP, 0, b), 2);
      due.is("name, b " + b, x.type(NAME, 0, b), 3);
    }
    due.is("pair, b 4", x.type(PAIR, 0, 4), -1);
    due.is("pair, b -1", x.type(PAIR, 0, -1), -1);
    due.is("pair, b 3", x.type(PAIR, 0, 3), 4);
    due.is("pair, b 2", x.type(PAIR, 0, 2), 5);
  }

  /** TYPES: "Types that are built alike have one number", and others have others. */
  private static void builtAlikeHaveOneNumber() {
    RigidCases x = new RigidCases();
    int[][] calls = {
      {EXP, 0, 0}, {EXP, 1, 0}, {NAME, 0, 0}, {NAME, 1, 0}, {PAIR, 0, 0}, {PAIR, 0, 1},
      {PAIR, 1, 0}, {PAIR, 1, 1}, {EXP, 2, 0}, {PAIR, 2, 0}, {PAIR, 0, 2}
    };
    for (int round = 0; round < 2; round++) {
      for (int k = 0; k < calls.length; k++) {
        int[] call = calls[k];
        due.is("type " + k + ", round " + round, x.type(call[0], call[1], call[2]), 2 + k);
      }
    }
  }

  /** TYPES: "at most 24"; promise 2: "ROOM when it is not there yet, and there are 24". */
  private static void atMostTwentyFour() {
    RigidCases x = withNumbers(23);
    due.is("the 24th", x.type(EXP, 0, 0), 23);
    due.is("a 25th", x.type(EXP, 1, 0), -2);
    due.is("a 25th again", x.type(EXP, 1, 0), -2);
    due.is("the 24th is there", x.type(EXP, 0, 0), 23);
    due.is("a part of type 23", x.type(EXP, 23, 0), -2);
    due.is("no type 24 for a part", x.type(EXP, 24, 0), -1);
    x.make(0, 0);
    due.is("as type 23", x.make(10, 23), 2);
    due.is("as type 24", x.make(10, 24), -1);
    due.is("no result 24", x.function(24), false);
    due.is("a result 23", x.function(23), true);
    x.make(0, 0);
    due.is("no main type 24", x.main(24), false);
    due.is("a main type 23", x.main(23), true);
  }

  /** The same for each kind of type, and that the refused call leaves all as it was. */
  private static void aTwentyFifthOfEachKind() {
    RigidCases x = withNumbers(24);
    due.is("a 25th, an exp", x.type(EXP, 0, 0), -2);
    due.is("a 25th, a pair", x.type(PAIR, 4, 4), -2);
    Alike.are(due, "refused a 25th", x, withNumbers(24));
    RigidCases y = new RigidCases();
    for (int made = 2; made < 24; made++) {
      int k = made - 2;
      due.is("type " + made, k < 2 ? y.type(EXP, k, 0) : y.type(PAIR, k / 5, k % 5), made);
    }
    for (int name = 0; name < 3; name++) {
      due.is("a 25th, name " + name, y.type(NAME, name, 0), -2);
    }
  }

  /** Promise 2: "ROOM when it is not there yet": what is there has its number among 24 too. */
  private static void fullIsNoBarForWhatIsThere() {
    RigidCases x = withNumbers(24);
    fill(x, 24);
    due.is("name 2 among 24", x.type(NAME, 2, 7), 4);
    due.is("the first pair among 24", x.type(PAIR, 0, 0), 5);
    due.is("the last pair among 24", x.type(PAIR, 3, 3), 23);
    RigidCases y = highest();
    for (int name = 0; name < 3; name++) {
      due.is("name " + name, y.type(NAME, name, 0), 5 + name);
    }
    for (int k = 0; k < 16; k++) {
      due.is("pair " + k, y.type(PAIR, k / 4, k % 4), 8 + k);
    }
    due.is("one of height 4 that is there", y.type(EXP, 3, 0), 4);
    due.is("one that would be higher", y.type(EXP, 4, 0), -2);
  }

  /** BAD goes before ROOM: what is not as said is no type that could have room. */
  private static void whatIsNotSaidBeforeNoRoom() {
    RigidCases x = withNumbers(24);
    due.is("kind 3 among 24", x.type(3, 0, 0), -1);
    due.is("kind -1 among 24", x.type(-1, 0, 0), -1);
    due.is("name 3 among 24", x.type(NAME, 3, 0), -1);
    due.is("name -1 among 24", x.type(NAME, -1, 0), -1);
    due.is("exp of 24 among 24", x.type(EXP, 24, 0), -1);
    due.is("pair of 24 among 24", x.type(PAIR, 24, 0), -1);
    due.is("pair and 24 among 24", x.type(PAIR, 0, 24), -1);
    RigidCases y = highest();
    due.is("too high by a, no such b", y.type(PAIR, 4, 5), -1);
    due.is("too high by b, no such a", y.type(PAIR, 5, 4), -1);
    due.is("too high", y.type(PAIR, 4, 4), -2);
  }

  /** TYPES: "A type has a HEIGHT, 1, or 1 more than that of its greatest part, at most 4". */
  private static void heightIsAtMostFour() {
    // On INT, BOOL and each name, all of height 1, three more may stand and no fourth.
    for (int leaf = 0; leaf < 5; leaf++) {
      for (int way = 0; way < 4; way++) {
        RigidCases x = withNumbers(5);
        int top = leaf;
        for (int height = 2; height <= 4; height++) {
          int higher = over(x, top, way);
          due.is("height " + height + " over " + leaf + " by way " + way, higher, 3 + height);
          top = higher;
        }
        due.is("height 5 over " + leaf + " by way " + way, over(x, top, way), -2);
      }
    }
  }

  /** A type of 1 more height, whose greatest part is its only, first, second or either one. */
  private static int over(RigidCases x, int type, int way) {
    switch (way) {
      case 0:
        return x.type(EXP, type, 0);
      case 1:
        return x.type(PAIR, type, 0);
      case 2:
        return x.type(PAIR, 1, type);
      default:
        return x.type(PAIR, type, type);
    }
  }

  /** "1 more than that of its greatest part": a part that is not the greatest counts nothing. */
  private static void heightIsOfTheGreatestPart() {
    RigidCases x = new RigidCases();
    due.is("height 2", x.type(EXP, 0, 0), 2);
    due.is("height 3", x.type(EXP, 2, 0), 3);
    due.is("2 and 3 are 4", x.type(PAIR, 2, 3), 4);
    due.is("3 and 2 are 4", x.type(PAIR, 3, 2), 5);
    due.is("3 and 3 are 4", x.type(PAIR, 3, 3), 6);
    due.is("1 and 2 are 3", x.type(PAIR, 1, 2), 7);
    due.is("3, of 1 and 2, and one more", x.type(EXP, 7, 0), 8);
    for (int highest : new int[] {4, 5, 6, 8}) {
      due.is("one more than type " + highest, x.type(EXP, highest, 0), -2);
      due.is("a pair of 1 and type " + highest, x.type(PAIR, 0, highest), -2);
      due.is("a pair of type " + highest + " and 3", x.type(PAIR, highest, 3), -2);
    }
    due.is("the next number", x.type(NAME, 0, 0), 9);
  }

  /** A type that would be too high takes no number, and another still has room. */
  private static void whatHasNoRoomIsNotMade() {
    RigidCases x = highest();
    due.is("too high, an exp", x.type(EXP, 4, 0), -2);
    due.is("too high, by its first", x.type(PAIR, 4, 0), -2);
    due.is("too high, by its second", x.type(PAIR, 0, 4), -2);
    Alike.are(due, "refused what is too high", x, highest());
    RigidCases y = highest();
    for (int k = 0; k < 40; k++) {
      due.is("too high again", y.type(EXP, 4, 0), -2);
    }
    due.is("another has room", y.type(PAIR, 0, 3), 5);
  }

  /** Types 2, 3 and 4 are of the heights 2, 3 and 4. */
  private static RigidCases highest() {
    RigidCases x = new RigidCases();
    x.type(EXP, 0, 0);
    x.type(EXP, 2, 0);
    due.is("height 4", x.type(EXP, 3, 0), 4);
    return x;
  }
}
