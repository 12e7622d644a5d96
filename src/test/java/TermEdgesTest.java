/** Promises 3, 4 and 5 at their edges: a method for each sentence that names one. */
public final class TermEdgesTest {
  private static final Due due = new Due("TermEdgesTest");

  private static final int LEAST = Integer.MIN_VALUE;
  private static final int MOST = Integer.MAX_VALUE;

  /** How many parts the operations 0 to 16 have. */
  private static final int[] PARTS = {0, 0, 0, 2, 2, 3, 2, 1, 1, 1, 1, 1, 1, 2, 3, 2, 1};

  public static void main(String[] args) {
    operationsAreZeroToSeventeen();
    aNumberMayBeAny();
    aTruthIsZeroOrOne();
    variablesAreZeroToEleven();
    asNeedsAType();
    setsAreOneToSixtyThree();
    elsewhereNothingIsSaidOfA();
    tooFewTerms();
    tooFewTermsForEachSet();
    theLastIsTheLastPart();
    atMostTwelve();
    twelveAndAnOperationWithParts();
    atMostFortyLarge();
    sizeIsOneMoreThanTheParts();
    atMostSixDeep();
    depthIsOfTheDeepestPart();
    whatIsNotSaidBeforeNoRoom();
    manyLargeTerms();
    heightIsZeroToTwelve();
    dropUntilNoneIsLeft();
    due.end();
  }

  private static int partsOf(int op, int a) {
    return op == 17 ? 1 + Integer.bitCount(a) : PARTS[op];
  }

  private static RigidCases with(String text) {
    RigidCases x = new RigidCases();
    if (!text.isEmpty()) {
      Text.make(x, text);
    }
    return x;
  }

  /** Makes a term that is refused, on what a text puts there, and sees that nothing changed. */
  private static void refused(String text, int op, int a, int answer) {
    String what = "make(" + op + ", " + a + ") on " + text;
    RigidCases x = with(text);
    due.is(what, x.make(op, a), answer);
    due.is(what + " again", x.make(op, a), answer);
    Alike.are(due, what, x, with(text));
  }

  private static void taken(String text, int op, int a, int size) {
    String what = "make(" + op + ", " + a + ") on " + text;
    RigidCases x = with(text);
    int before = x.height();
    due.is(what, x.make(op, a), size);
    due.is(what + ": height", x.height(), before + 1 - partsOf(op, a));
  }

  /** Promise 3: "BAD when op is not 0 .. 17". */
  private static void operationsAreZeroToSeventeen() {
    for (int op : new int[] {LEAST, -2, -1, 18, 19, 63, MOST}) {
      for (int a : new int[] {0, 1, -1}) {
        refused("n1 n2 n3 n4 n5 n6 n7", op, a, -1);
        refused("", op, a, -1);
      }
    }
    for (int op = 0; op <= 17; op++) {
      taken("n1 n2 n3 n4 n5 n6 n7", op, 1, 1 + partsOf(op, 1));
    }
  }

  /** "0 NUMBER a": nothing is said of a, so that every int is taken, and kept as it is. */
  private static void aNumberMayBeAny() {
    for (int a : new int[] {LEAST, LEAST + 1, -2, -1, 0, 1, 12, 64, MOST - 1, MOST}) {
      RigidCases x = new RigidCases();
      due.is("number " + a, x.make(0, a), 1);
      x.main(0);
      x.evaluate();
      due.is("number " + a + " stays", x.number(0), a);
    }
  }

  /** "1 TRUTH (a = 1) or not (a = 0)". */
  private static void aTruthIsZeroOrOne() {
    for (int a : new int[] {LEAST, -1, 2, 3, MOST}) {
      refused("", 1, a, -1);
      refused("n1", 1, a, -1);
    }
    for (int a = 0; a <= 1; a++) {
      RigidCases x = new RigidCases();
      due.is("truth " + a, x.make(1, a), 1);
      x.main(1);
      x.evaluate();
      due.is("truth " + a + " is so", x.value(0), a == 1 ? 1001 : 1002);
    }
  }

  /** "2 VARIABLE a (0 .. 11)". */
  private static void variablesAreZeroToEleven() {
    for (int a : new int[] {LEAST, -1, 12, 13, MOST}) {
      refused("", 2, a, -1);
      refused("n1", 2, a, -1);
    }
    for (int a = 0; a <= 11; a++) {
      taken("", 2, a, 1);
    }
  }

  /** "10 AS a type a": one that is there, and a type made later is there later. */
  private static void asNeedsAType() {
    for (int a : new int[] {LEAST, -1, 2, 23, 24, MOST}) {
      refused("n1", 10, a, -1);
    }
    taken("n1", 10, 0, 2);
    taken("n1", 10, 1, 2);
    RigidCases x = with("n1");
    for (int type = 2; type < 24; type++) {
      due.is("as " + type + " before", x.make(10, type), -1);
      int k = type - 2;
      due.is("type", k < 2 ? x.type(1, k, 0) : x.type(0, k / 5, k % 5), type);
      due.is("as " + type + " then", x.make(10, type), 2);
      x.drop();
      x.make(0, 1);
    }
    due.is("as 24", x.make(10, 24), -1);
  }

  /** "17 CASES with a set a of makers (bits 0 .. 5 for 11 .. 16, 1 .. 63)". */
  private static void setsAreOneToSixtyThree() {
    for (int a : new int[] {LEAST, -64, -1, 0, 64, 65, 127, 128, MOST}) {
      refused("n1 n2 n3 n4 n5 n6 n7 n8 n9", 17, a, -1);
      refused("", 17, a, -1);
    }
    for (int a = 1; a <= 63; a++) {
      taken("n1 n2 n3 n4 n5 n6 n7", 17, a, 2 + Integer.bitCount(a));
    }
  }

  /** Promise 3: "(a is not looked at where nothing is said of it)". */
  private static void elsewhereNothingIsSaidOfA() {
    int[] operations = {3, 4, 5, 6, 7, 8, 9, 11, 12, 13, 14, 15, 16};
    for (int op : operations) {
      for (int a : new int[] {LEAST, -1, 0, 1, 2, 12, 24, 64, MOST}) {
        taken("n1 n2 n3", op, a, 1 + PARTS[op]);
      }
    }
  }

  private static String numbers(int count) {
    StringBuilder text = new StringBuilder();
    for (int k = 1; k <= count; k++) {
      text.append(k == 1 ? "n" : " n").append(k);
    }
    return text.toString();
  }

  /** Promise 3: "BAD when .. the stack has too few terms": one too few, and just enough. */
  private static void tooFewTerms() {
    for (int op = 0; op <= 16; op++) {
      for (int count = 0; count < PARTS[op]; count++) {
        refused(numbers(count), op, 0, -1);
      }
      taken(numbers(PARTS[op]), op, 0, 1 + PARTS[op]);
    }
  }

  /** "one part, the SUBJECT, and one for each maker of the set": for all 63 sets. */
  private static void tooFewTermsForEachSet() {
    for (int set = 1; set <= 63; set++) {
      int parts = 1 + Integer.bitCount(set);
      refused(numbers(parts - 1), 17, set, -1);
      taken(numbers(parts), 17, set, 1 + parts);
      taken(numbers(parts + 1), 17, set, 1 + parts);
    }
    refused("", 17, 1, -1);
    refused("", 17, 63, -1);
  }

  /** TERMS: "(the one put there last is the last part)". */
  private static void theLastIsTheLastPart() {
    RigidCases x = with("n1 n2 n3 both both");
    x.main(0);
    x.evaluate();
    for (int k = 0; k < 3; k++) {
      due.is("part " + k, x.number(new int[] {1, 3, 4}[k]), k + 1);
    }
    Text.main(x, "n2147483647 n-2147483648 less", 1);
    x.evaluate();
    due.is("the greatest is less than the least", x.value(0), 1002);
    Text.main(x, "t0 n1 n2 if", 0);
    x.evaluate();
    due.is("the last part of IF", x.number(0), 2);
    // Parts for the makers of a set ascend, whichever set it is.
    Text.main(x, "n9 lit left n1 n2 cases33", 0);
    x.evaluate();
    due.is("the last part of CASES", x.number(0), 2);
    Text.main(x, "n9 lit n1 n2 cases33", 0);
    x.evaluate();
    due.is("the first case of CASES", x.number(0), 1);
  }

  /** TERMS: "a STACK of at most 12 terms"; promise 3: "ROOM when .. more than 12". */
  private static void atMostTwelve() {
    int[][] leaves = {{0, 5}, {1, 1}, {1, 0}, {2, 0}, {2, 11}};
    for (int[] leaf : leaves) {
      taken(numbers(11), leaf[0], leaf[1], 1);
      refused(numbers(12), leaf[0], leaf[1], -2);
    }
    // Also when the terms are large, and when a drop has made room.
    RigidCases x = with(numbers(12));
    due.is("a 13th", x.make(0, 13), -2);
    due.is("a drop", x.drop(), 11);
    due.is("a 12th again", x.make(0, 99), 1);
    due.is("a 13th again", x.make(0, 13), -2);
    due.is("taking one away", x.main(0), true);
    due.is("a 12th after that", x.make(0, 12), 1);
    due.is("a 13th after that", x.make(0, 13), -2);
  }

  /** An operation takes its parts from the stack first, so twelve are no bar for it. */
  private static void twelveAndAnOperationWithParts() {
    for (int op = 3; op <= 16; op++) {
      RigidCases x = with(numbers(12));
      due.is("operation " + op + " on twelve", x.make(op, 0), 1 + PARTS[op]);
      due.is("height after it", x.height(), 13 - PARTS[op]);
      for (int k = PARTS[op]; k > 1; k--) {
        due.is("there is room for another", x.make(0, 0), 1);
      }
      due.is("and for no more", x.make(0, 0), -2);
    }
    RigidCases y = with(numbers(12));
    due.is("CASES of all on twelve", y.make(17, 63), 8);
    due.is("height after CASES", y.height(), 6);
  }

  /** Texts of the parts for an operation, with so much size in all and at most so deep. */
  private static String parts(int count, int size, int depth) {
    StringBuilder text = new StringBuilder(Sized.text(size - count + 1, depth));
    for (int k = 1; k < count; k++) {
      text.append(" n").append(k);
    }
    return text.toString();
  }

  /** TERMS: "a SIZE (.. at most 40)"; promise 3: "ROOM when .. too large": each operation. */
  private static void atMostFortyLarge() {
    for (int op = 3; op <= 17; op++) {
      int a = op == 17 ? 63 : 0;
      int count = partsOf(op, a);
      taken(parts(count, 38, 5), op, a, 39);
      taken(parts(count, 39, 5), op, a, 40);
      refused(parts(count, 40, 5), op, a, -2);
    }
    taken(Sized.text(20, 5) + " " + Sized.text(19, 5), 6, 0, 40);
    refused(Sized.text(20, 5) + " " + Sized.text(20, 5), 6, 0, -2);
    refused(Sized.text(40, 5) + " " + Sized.text(40, 5), 6, 0, -2);
    refused(Sized.text(40, 5), 11, 0, -2);
    // A part of size 40 is no smaller for being 4 deep.
    refused(Sized.text(40, 4), 11, 0, -2);
    // Refused for the size, the operation may still be made of smaller parts.
    RigidCases x = with(parts(2, 40, 5));
    due.is("41 large", x.make(3, 0), -2);
    x.drop();
    due.is("40 large, of one part", x.make(11, 0), 40);
  }

  /** "1 more than the sizes of its parts together". */
  private static void sizeIsOneMoreThanTheParts() {
    for (int op = 0; op <= 2; op++) {
      taken("", op, 0, 1);
    }
    for (int first = 1; first <= 19; first++) {
      for (int second = 1; second <= 20; second += 3) {
        String text = any(first) + " " + any(second);
        taken(text, 15, 0, 1 + first + second);
        taken(text + " n5", 14, 0, 2 + first + second);
        taken("n5 " + text, 17, 6, 2 + first + second);
      }
    }
  }

  /** A text of this size, no deeper than 4. */
  private static String any(int size) {
    return Sized.text(size, Math.min(size, 4));
  }

  private static String deep(int depth) {
    return Sized.text(depth, depth);
  }

  /** TERMS: "a DEPTH (.. at most 6)"; promise 3: "too deep": each operation, by each part. */
  private static void atMostSixDeep() {
    for (int op = 3; op <= 17; op++) {
      int a = op == 17 ? 63 : 0;
      int count = partsOf(op, a);
      for (int part = 0; part < count; part++) {
        taken(withDeep(count, part, 4), op, a, 4 + count);
        taken(withDeep(count, part, 5), op, a, 5 + count);
        refused(withDeep(count, part, 6), op, a, -2);
      }
    }
  }

  /** Numbers as parts, but one of a depth. */
  private static String withDeep(int count, int deepest, int depth) {
    StringBuilder text = new StringBuilder();
    for (int part = 0; part < count; part++) {
      text.append(part == deepest ? deep(depth) : "n" + part).append(' ');
    }
    return text.toString();
  }

  /** "1, or 1 more than that of its deepest part": other parts count nothing. */
  private static void depthIsOfTheDeepestPart() {
    taken(deep(5) + " " + deep(5), 6, 0, 11);
    taken(deep(5) + " " + deep(5) + " " + deep(5), 5, 0, 16);
    refused(deep(6) + " " + deep(1), 6, 0, -2);
    refused(deep(1) + " " + deep(6), 6, 0, -2);
    // The depth of a term that is gone is not that of the next one in its place.
    RigidCases x = with(deep(6));
    due.is("7 deep", x.make(7, 0), -2);
    x.drop();
    x.make(0, 0);
    for (int size = 2; size <= 6; size++) {
      due.is(size + " deep", x.make(7, 0), size);
    }
    due.is("7 deep again", x.make(7, 0), -2);
    x.function(0);
    x.make(0, 0);
    due.is("2 deep after a body 6 deep", x.make(7, 0), 2);
    // A term that is made of others stands in the place of the first.
    RigidCases y = with(deep(1) + " " + deep(5));
    due.is("6 deep by the second", y.make(6, 0), 7);
    due.is("7 deep over it", y.make(9, 0), -2);
    y.make(0, 0);
    due.is("2 deep beside it", y.make(9, 0), 2);
  }

  /** BAD goes before ROOM: what is not as said is no operation that could have room. */
  private static void whatIsNotSaidBeforeNoRoom() {
    String twelve = numbers(12);
    refused(twelve, -1, 0, -1);
    refused(twelve, 18, 0, -1);
    refused(twelve, 1, 2, -1);
    refused(twelve, 2, 12, -1);
    refused(twelve, 2, -1, -1);
    String deep = numbers(6) + " " + deep(6);
    refused(deep, 18, 0, -1);
    refused(deep, 10, 2, -1);
    refused(deep, 10, 1, -2);
    refused(deep, 17, 64, -1);
    refused(deep, 17, 0, -1);
    refused(deep, 17, 63, -2);
    refused(deep(6), 3, 0, -1);
    refused(deep(6), 5, 0, -1);
    refused(deep(6), 17, 1, -1);
    String large = Sized.text(40, 5);
    refused(large, 10, 2, -1);
    refused(large, 10, 0, -2);
    refused(large, 4, 0, -1);
    refused(large, 17, 1, -1);
  }

  /** As much on the stack as can be: a term needs room there for its parts while it is made. */
  private static void manyLargeTerms() {
    String[] texts = new String[12];
    RigidCases x = new RigidCases();
    for (int k = 0; k < 12; k++) {
      String comb = "n" + k + " n1 both n2 both n3 both n4 both n5 both";
      texts[k] = k < 5 ? Sized.text(40, 5) : k < 11 ? comb : deep(6);
      int size = k < 5 ? 40 : k < 11 ? 11 : 6;
      due.is("term " + k + " of twelve", Text.make(x, texts[k]), size);
    }
    due.is("no thirteenth", x.make(0, 0), -2);
    for (int k = 11; k >= 0; k--) {
      RigidCases y = new RigidCases();
      Text.main(y, texts[k], 0);
      due.is("term " + k + " is taken", x.main(0), true);
      due.is("term " + k + " was the last", x.height(), k);
      due.is("term " + k + " is as it was", x.evaluate(), y.evaluate());
      due.is("term " + k + " has its steps", x.steps(), y.steps());
      due.is("term " + k + " has its first number", x.number(5), y.number(5));
    }
  }

  /** Promise 4: "How many terms are on the stack": none to twelve, whatever was refused. */
  private static void heightIsZeroToTwelve() {
    RigidCases x = new RigidCases();
    due.is("height of none", x.height(), 0);
    x.make(3, 0);
    due.is("height of none after a refused call", x.height(), 0);
    for (int count = 1; count <= 12; count++) {
      x.make(0, 0);
      due.is("height of " + count, x.height(), count);
      x.make(1, 2);
      due.is("height of " + count + " after a refused call", x.height(), count);
    }
    x.make(0, 0);
    due.is("height of twelve after a thirteenth", x.height(), 12);
    x.make(5, 0);
    due.is("height after three became one", x.height(), 10);
    x.function(0);
    due.is("height after one became the body", x.height(), 9);
    x.main(0);
    due.is("height after one became the main term", x.height(), 8);
  }

  /** Promise 5: "how many are left; BAD when there is none". */
  private static void dropUntilNoneIsLeft() {
    RigidCases x = with(numbers(12));
    for (int left = 11; left >= 0; left--) {
      due.is("drop to " + left, x.drop(), left);
      due.is("height " + left, x.height(), left);
    }
    for (int k = 0; k < 3; k++) {
      due.is("drop of none", x.drop(), -1);
      due.is("height of none", x.height(), 0);
    }
    Alike.are(due, "refused drops", x, new RigidCases());
    // A term goes with all its parts, and the one below is the last then.
    RigidCases y = with("n1 n2 both " + Sized.text(40, 6));
    due.is("drop of a large term", y.drop(), 1);
    due.is("the one below is the last", y.make(8, 0), 4);
    y.main(0);
    y.evaluate();
    due.is("it is as it was", y.number(0), 2);
    due.is("drop of none after that", y.drop(), -1);
  }
}
