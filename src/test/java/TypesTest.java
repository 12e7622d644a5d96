/** Promises 1 and 2, and the constants. */
public final class TypesTest {
  private static final Due due = new Due("TypesTest");

  public static void main(String[] args) {
    constants();
    newObject();
    ordinaryTypes();
    wrongTypes();
    alikeTypesHaveOneNumber();
    atMostTwentyFour();
    atMostFourHigh();
    checkingLeavesTypesAlone();
    due.end();
  }

  private static void constants() {
    due.is("BAD", RigidCases.BAD, -1);
    due.is("ROOM", RigidCases.ROOM, -2);
  }

  private static void newObject() {
    RigidCases x = new RigidCases();
    due.is("new: height", x.height(), 0);
    due.is("new: steps", x.steps(), 0);
    due.is("new: value(0)", x.value(0), -1);
    due.is("new: number(0)", x.number(0), 0);
    due.is("new: drop", x.drop(), -1);
    due.is("new: check", x.check(), 0);
    due.is("new: evaluate", x.evaluate(), 0);
    due.is("new: its value", x.value(0), 1000);
    due.is("new: its number", x.number(0), 0);
    due.is("new: its row ends", x.value(1), -1);
    due.is("new: its steps", x.steps(), 1);
    due.is("new: there is no type 2", x.type(1, 2, 0), -1);
    due.is("new: type 0 is there", x.type(1, 0, 0), 2);
    due.is("new: type 1 is there", x.type(1, 1, 0), 3);
    // INT and BOOL are unlike, and the new body, NUMBER 0, is called like any other.
    Text.main(x, "t1 call", 0);
    due.is("new: a call of a truth is wrong", x.check(), 2);
    Text.main(x, "t1 bit call", 0);
    due.is("new: the result is INT", x.check(), 0);
    due.is("new: the body's value", x.evaluate(), 0);
    due.is("new: the body is a number", x.value(0), 1000);
    due.is("new: the body is 0", x.number(0), 0);
    Text.main(x, "t1 bit call", 1);
    due.is("new: the result is not BOOL", x.check(), 2);
  }

  private static void ordinaryTypes() {
    RigidCases x = new RigidCases();
    due.is("pair", x.type(0, 0, 1), 2);
    due.is("exp", x.type(1, 2, 77), 3);
    due.is("name", x.type(2, 2, -5), 4);
    due.is("pair of later ones", x.type(0, 4, 3), 5);
    due.is("name 0", x.type(2, 0, 0), 6);
    due.is("name 1", x.type(2, 1, 0), 7);
  }

  private static void wrongTypes() {
    RigidCases x = new RigidCases();
    due.is("kind -1", x.type(-1, 0, 0), -1);
    due.is("kind 3", x.type(3, 0, 0), -1);
    due.is("kind 4", x.type(4, 0, 0), -1);
    due.is("the least kind", x.type(Integer.MIN_VALUE, 0, 0), -1);
    due.is("the greatest kind", x.type(Integer.MAX_VALUE, 0, 0), -1);
    due.is("pair of -1", x.type(0, -1, 0), -1);
    due.is("pair and -1", x.type(0, 0, -1), -1);
    due.is("pair of 2", x.type(0, 2, 0), -1);
    due.is("pair and 2", x.type(0, 0, 2), -1);
    due.is("pair of the greatest", x.type(0, Integer.MAX_VALUE, Integer.MIN_VALUE), -1);
    due.is("exp of -1", x.type(1, -1, 0), -1);
    due.is("exp of 2", x.type(1, 2, 0), -1);
    due.is("name -1", x.type(2, -1, 0), -1);
    due.is("name 3", x.type(2, 3, 0), -1);
    due.is("none of these was made", x.type(2, 0, 0), 2);
  }

  private static void alikeTypesHaveOneNumber() {
    RigidCases x = new RigidCases();
    due.is("exp", x.type(1, 0, 5), 2);
    due.is("exp again, another b", x.type(1, 0, 6), 2);
    due.is("name", x.type(2, 1, 5), 3);
    due.is("name again, another b", x.type(2, 1, -6), 3);
    due.is("name 0 is no exp of 0", x.type(2, 0, 0), 4);
    due.is("pair", x.type(0, 0, 1), 5);
    due.is("turned pair", x.type(0, 1, 0), 6);
    due.is("pair again", x.type(0, 0, 1), 5);
    due.is("pair of itself", x.type(0, 0, 0), 7);
    due.is("exp of 1", x.type(1, 1, 0), 8);
  }

  private static void atMostTwentyFour() {
    RigidCases x = new RigidCases();
    int made = 2;
    for (int a = 0; a < 5; a++) {
      due.is("name or exp " + a, a < 3 ? x.type(2, a, 0) : x.type(1, a - 3, 0), made++);
    }
    for (int a = 0; a < 5 && made < 24; a++) {
      for (int b = 0; b < 5 && made < 24; b++) {
        due.is("pair " + a + " " + b, x.type(0, a, b), made++);
      }
    }
    due.is("a 25th", x.type(0, 4, 4), -2);
    due.is("a 25th, too high or not", x.type(1, 23, 0), -2);
    due.is("the 24th is there", x.type(0, 3, 1), 23);
    due.is("one that is there", x.type(2, 2, 0), 4);
    due.is("BAD before ROOM", x.type(1, 24, 0), -1);
    due.is("BAD kind before ROOM", x.type(3, 0, 0), -1);
    due.is("BAD name before ROOM", x.type(2, 3, 0), -1);
  }

  private static void atMostFourHigh() {
    RigidCases x = new RigidCases();
    due.is("2 high", x.type(1, 0, 0), 2);
    due.is("3 high", x.type(1, 2, 0), 3);
    due.is("4 high", x.type(1, 3, 0), 4);
    due.is("5 high", x.type(1, 4, 0), -2);
    due.is("5 high by its first part", x.type(0, 4, 0), -2);
    due.is("5 high by its second part", x.type(0, 0, 4), -2);
    due.is("4 high by its second part", x.type(0, 0, 3), 5);
    due.is("4 high by its first part", x.type(0, 3, 0), 6);
    due.is("5 high over a pair's second", x.type(1, 5, 0), -2);
    due.is("5 high over a pair's first", x.type(1, 6, 0), -2);
    due.is("none of these was made", x.type(2, 0, 0), 7);
  }

  private static void checkingLeavesTypesAlone() {
    RigidCases x = new RigidCases();
    Text.function(x, "v0 v1 v1 v1 v1 v1 v1 cases63", 0);
    Text.main(x, "n1 n2 both first", 0);
    x.check();
    due.is("checking makes no types", x.type(1, 2, 0), -1);
    due.is("the next number", x.type(2, 1, 0), 2);
  }
}
