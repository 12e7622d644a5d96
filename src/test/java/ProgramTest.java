/** Promises 6 and 7. */
public final class ProgramTest {
  private static final Due due = new Due("ProgramTest");

  public static void main(String[] args) {
    takingTheBody();
    takingTheMainTerm();
    refusals();
    takingBothAgain();
    stackUnderTheTermStays();
    due.end();
  }

  private static void takingTheBody() {
    RigidCases x = new RigidCases();
    x.type(1, 0, 0);
    Text.make(x, "n7 lit n8");
    due.is("function", x.function(0), true);
    due.is("one is left", x.height(), 1);
    due.is("function of the rest", x.function(2), true);
    due.is("none is left", x.height(), 0);
    due.is("the body fits", x.check(), 0);
    Text.main(x, "n1 lit call", 2);
    due.is("its result is the later one", x.check(), 0);
    x.evaluate();
    due.is("the later body is called", x.value(0), 1011);
    due.is("with its number", x.number(1), 7);
    Text.function(x, "n7 lit", 0);
    due.is("a body of another type", x.check(), 1);
  }

  private static void takingTheMainTerm() {
    RigidCases x = new RigidCases();
    Text.make(x, "n7 t1");
    due.is("main", x.main(1), true);
    due.is("one is left", x.height(), 1);
    due.is("the main term fits", x.check(), 0);
    x.evaluate();
    due.is("it is what is evaluated", x.value(0), 1001);
    due.is("main of the rest", x.main(1), true);
    due.is("its type is wrong", x.check(), 2);
    due.is("nothing is evaluated by that", x.value(0), 1001);
    x.evaluate();
    due.is("the later one is evaluated", x.number(0), 7);
  }

  private static void refusals() {
    RigidCases x = new RigidCases();
    due.is("function of none", x.function(0), false);
    due.is("main of none", x.main(0), false);
    Text.make(x, "t1");
    int[] wrong = {-1, 2, 24, Integer.MAX_VALUE, Integer.MIN_VALUE};
    for (int type : wrong) {
      due.is("function(" + type + ")", x.function(type), false);
      due.is("main(" + type + ")", x.main(type), false);
    }
    due.is("the term is still there", x.height(), 1);
    due.is("the program is as it was", x.check(), 0);
    due.is("its value too", x.evaluate(), 0);
    due.is("which is a number", x.value(0), 1000);
    x.drop();
    due.is("none, and a type that is there", x.main(1), false);
    due.is("none, and a result that is there", x.function(1), false);
    due.is("the types are as they were", x.check(), 0);
  }

  private static void takingBothAgain() {
    RigidCases x = new RigidCases();
    Text.function(x, "n1 n2 both n3 both first second", 0);
    Text.function(x, "n5", 0);
    Text.main(x, "n1 n2 n3 n4 both both both", 0);
    Text.main(x, "n0 lit call", 0);
    due.is("smaller ones in place of larger ones", x.check(), 0);
    due.is("evaluate", x.evaluate(), 0);
    due.is("number", x.number(0), 5);
    due.is("steps", x.steps(), 4);
  }

  private static void stackUnderTheTermStays() {
    RigidCases x = new RigidCases();
    Text.make(x, "n1 n2 both n3 n4 add");
    x.function(0);
    x.make(8, 0);
    due.is("the pair was left", x.main(0), true);
    x.evaluate();
    due.is("its second part", x.number(0), 2);
  }
}
