/** Promises 6 and 7 at their edges: a method for each sentence that names one. */
public final class ProgramEdgesTest {
  private static final Due due = new Due("ProgramEdgesTest");

  private static final int LEAST = Integer.MIN_VALUE;
  private static final int MOST = Integer.MAX_VALUE;

  public static void main(String[] args) {
    withoutATerm();
    withOneTerm();
    withTwelveTerms();
    withoutSuchAType();
    theFirstAndTheLastType();
    theSmallestAndTheLargestTerm();
    oneAfterAnother();
    bothAtOnce();
    nothingIsEvaluatedByThat();
    due.end();
  }

  /** An object on which all that a refused call could change is unlike a new one's. */
  private static RigidCases inUse(String stack) {
    RigidCases x = new RigidCases();
    x.type(1, 0, 0);
    Text.function(x, "n3 lit", 2);
    Text.main(x, "n4 n5 both", 1);
    x.evaluate();
    Text.main(x, "n6 lit call", 2);
    if (!stack.isEmpty()) {
      Text.make(x, stack);
    }
    return x;
  }

  private static void bothRefused(String what, RigidCases x, int type) {
    due.is("function(" + type + ") " + what, x.function(type), false);
    due.is("main(" + type + ") " + what, x.main(type), false);
  }

  /** "False, changing nothing, when there is none". */
  private static void withoutATerm() {
    RigidCases x = new RigidCases();
    bothRefused("of a new object", x, 0);
    bothRefused("of a new object", x, 1);
    Alike.are(due, "refused for want of a term", x, new RigidCases());
    RigidCases y = inUse("");
    for (int type = -1; type <= 3; type++) {
      bothRefused("of none", y, type);
    }
    Alike.are(due, "refused for want of a term, in use", y, inUse(""));
    RigidCases z = inUse("n1");
    z.drop();
    bothRefused("of one that was dropped", z, 0);
    Alike.are(due, "refused for want of a term, after a drop", z, inUse(""));
  }

  /** "The last term is taken": a single one, after which there is none. */
  private static void withOneTerm() {
    RigidCases x = inUse("n7");
    due.is("function of one", x.function(0), true);
    due.is("none is left", x.height(), 0);
    bothRefused("when it was taken", x, 0);
    RigidCases y = inUse("n7");
    due.is("main of one", y.main(0), true);
    due.is("none is left then", y.height(), 0);
    bothRefused("when it was taken", y, 0);
  }

  /** "The last term is taken", of as many as there can be: the others stay. */
  private static void withTwelveTerms() {
    RigidCases x = new RigidCases();
    for (int k = 1; k <= 12; k++) {
      x.make(0, k);
    }
    bothRefused("with twelve terms", x, 2);
    due.is("function of twelve", x.function(0), true);
    due.is("eleven are left", x.height(), 11);
    for (int k = 11; k >= 1; k--) {
      due.is("main of " + k, x.main(0), true);
      due.is("left of " + k, x.height(), k - 1);
      x.evaluate();
      due.is("the last of " + k, x.number(0), k);
    }
    Text.main(x, "n0 call", 0);
    x.evaluate();
    due.is("the body was the last of twelve", x.number(0), 12);
  }

  /** "False, changing nothing, when .. no such type". */
  private static void withoutSuchAType() {
    int[] wrong = {LEAST, -2, -1, 3, 4, 23, 24, MOST};
    RigidCases x = inUse("n7 t1");
    for (int type : wrong) {
      bothRefused("in use", x, type);
    }
    Alike.are(due, "refused for want of a type", x, inUse("n7 t1"));
    RigidCases y = new RigidCases();
    y.make(1, 1);
    bothRefused("of a new object's types", y, 2);
    due.is("type 2", y.type(2, 1, 0), 2);
    due.is("main(2) when it is there", y.main(2), true);
  }

  /** The last type that is there is taken: of 2, and of 24. */
  private static void theFirstAndTheLastType() {
    RigidCases x = new RigidCases();
    for (int count = 2; count <= 24; count++) {
      Text.make(x, "n1 n2");
      bothRefused("with " + count + " types", x, count);
      due.is("function of the last of " + count, x.function(count - 1), true);
      due.is("main of the last of " + count, x.main(count - 1), true);
      due.is("a number is no other type", x.check(), 1);
      Text.make(x, "n1 n2");
      due.is("function(0) with " + count, x.function(0), true);
      due.is("main(0) with " + count, x.main(0), true);
      due.is("a number is an INT", x.check(), 0);
      int k = count - 2;
      int made = k < 2 ? x.type(1, k, 0) : x.type(0, k / 5, k % 5);
      due.is("one type more", made, count < 24 ? count : -2);
    }
  }

  private static String ones(int depth) {
    return depth == 1 ? "n1" : ones(depth - 1) + " " + ones(depth - 1) + " add";
  }

  /** A term of size 1 and one of size 40 and depth 6, in place of each other. */
  private static void theSmallestAndTheLargestTerm() {
    String forty = ones(5) + " " + ones(3) + " as0 add";
    RigidCases x = new RigidCases();
    for (int round = 0; round < 3; round++) {
      due.is("a body of size 40", Text.make(x, forty), 40);
      due.is("it is taken", x.function(0), true);
      due.is("a main term of size 40", Text.make(x, forty), 40);
      due.is("it is taken", x.main(0), true);
      due.is("both are right", x.check(), 0);
      due.is("the large main term has a value", x.evaluate(), 0);
      due.is("the ones in it", x.number(0), 20);
      due.is("its steps", x.steps(), 40);
      Text.main(x, "n0 lit call", 0);
      due.is("the large body has a value", x.evaluate(), 0);
      due.is("the ones in it", x.number(0), 20);
      due.is("steps with it", x.steps(), 43);
      Text.function(x, "n8", 0);
      Text.main(x, "n0 call", 0);
      due.is("the small body has a value", x.evaluate(), 0);
      due.is("the small body", x.number(0), 8);
      due.is("steps with it", x.steps(), 3);
    }
  }

  /** A body or a main term holds until the next one, and each leaves the other alone. */
  private static void oneAfterAnother() {
    RigidCases x = new RigidCases();
    Text.main(x, "n0 lit call", 0);
    for (int k = 1; k <= 5; k++) {
      Text.function(x, "n" + k, 0);
      due.is("check with body " + k, x.check(), 0);
      x.evaluate();
      due.is("body " + k, x.number(0), k);
    }
    Text.main(x, "t1 bit call n9 add", 0);
    x.evaluate();
    due.is("the body stays with a new main term", x.number(0), 14);
    Text.function(x, "t1", 1);
    due.is("the main term stays with a new result", x.check(), 2);
  }

  /** The same term is not taken twice: each takes the last that is there then. */
  private static void bothAtOnce() {
    RigidCases x = new RigidCases();
    Text.make(x, "n5 lit call n6");
    due.is("the last is the body", x.function(0), true);
    due.is("the one below is the main term", x.main(0), true);
    due.is("they fit", x.check(), 0);
    x.evaluate();
    due.is("the main term calls the body", x.number(0), 6);
    Text.make(x, "n6 n5 lit call");
    due.is("the last is the main term", x.main(0), true);
    due.is("the one below is the body", x.function(0), true);
    x.evaluate();
    due.is("the main term calls the body again", x.number(0), 6);
  }

  /** Neither call evaluates: what the latest evaluating left stays. */
  private static void nothingIsEvaluatedByThat() {
    RigidCases x = new RigidCases();
    Text.main(x, "n1 n2 both", 0);
    due.is("steps before", x.steps(), 0);
    due.is("value before", x.value(0), -1);
    x.evaluate();
    Text.function(x, "n7", 0);
    Text.main(x, "t1", 1);
    due.is("steps after", x.steps(), 3);
    due.is("value after", x.value(0), 1003);
    due.is("number after", x.number(2), 2);
  }
}
