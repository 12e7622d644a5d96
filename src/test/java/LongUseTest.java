/**
 * "An object is used for at most 512 calls after it has been made": every one of them, up to the
 * 512th, answers as the reference does.
 */
public final class LongUseTest {
  private static final Due due = new Due("LongUseTest");

  private static final int NAME = 2;
  private static final int METHODS = 11;

  /** Gives what it is given for, with a part for each maker. */
  private static final String EVALUATOR =
      "v0 v1 v1 v1 call v2 call add v1 call v2 call v3 call if v1 call v2 call both "
          + "v1 call first cases63";

  /** Three calls in each body for a LEFT. */
  private static final String MANY_CALLS = "v0 v0 v1 call v1 call v1 call when cases33";

  public static void main(String[] args) {
    for (int seed = 0; seed < 300; seed++) {
      anyCalls(seed);
    }
    oneCallAgainAndAgain();
    programsAgainAndAgain();
    termsAgainAndAgain();
    typesAgainAndAgain();
    eachAsTheLastCall();
    due.end();
  }

  /** Calls without sense, wrong numbers among them. */
  private static void anyCalls(int seed) {
    Programs programs = new Programs(seed);
    Compared x = new Compared(due, "any calls, seed " + seed);
    while (x.left() > 0) {
      anyCall(x, programs);
    }
  }

  private static void anyCall(Compared x, Programs programs) {
    int a = programs.below(30) - 2;
    int method = programs.below(24);
    if (method < METHODS && method > 1) {
      call(x, method, a);
    } else if (method < 2) {
      int kind = programs.below(5) - 1;
      int first = programs.below(programs.types() + 2) - 1;
      int second = programs.below(programs.types() + 2) - 1;
      programs.made(x.type(kind, first, second), kind, first, second);
    } else if (method < 13) {
      x.make(17, programs.below(66) - 1);
    } else {
      x.make(programs.below(20) - 1, programs.below(5) == 0 ? a : programs.below(3));
    }
  }

  /** One call of a method of the face, with a where it takes a number. */
  private static void call(Compared x, int method, int a) {
    switch (method) {
      case 0 -> x.type(a, 1, 0);
      case 1 -> x.make(0, a);
      case 2 -> x.height();
      case 3 -> x.drop();
      case 4 -> x.function(a);
      case 5 -> x.main(a);
      case 6 -> x.check();
      case 7 -> x.evaluate();
      case 8 -> x.steps();
      case 9 -> x.value(a);
      default -> x.number(a);
    }
  }

  private static Compared withProgram(String name, String body, String main) {
    Compared x = new Compared(due, name);
    x.type(2, 0, 0);
    x.make(body);
    x.function(NAME);
    x.make(main);
    x.main(0);
    return x;
  }

  /** Each method alone, with a program before it that is well typed, wrong, STUCK or SPENT. */
  private static void oneCallAgainAndAgain() {
    String[][] programs = {
      {EVALUATOR, "n5 lit n7 lit sum call"},
      {EVALUATOR, "n5 call"},
      {"v0 call", "n5 lit call"},
      {MANY_CALLS, "n0 lit left left left call"}
    };
    for (String[] program : programs) {
      for (int method = 0; method < METHODS; method++) {
        Compared x = withProgram("method " + method, program[0], program[1]);
        x.evaluate();
        while (x.left() > 0) {
          call(x, method, x.left() % 4);
        }
      }
    }
  }

  /** A program after another, each checked and evaluated. */
  private static void programsAgainAndAgain() {
    String[] mains = {
      "n5 lit n7 lit sum call", "t1 bit n1 lit n2 lit when call", "n1 lit t1 bit duo call",
      "n1 lit t1 bit duo left call", "n1 t1 add", "n1 call", "t1 call n1 add"
    };
    Compared x = withProgram("programs", EVALUATOR, mains[0]);
    for (int k = 0; x.left() > 40; k++) {
      x.make(mains[k % mains.length]);
      x.main(k % 3);
      x.check();
      x.evaluate();
      x.steps();
      x.value(0);
      x.number(0);
      x.value(2);
    }
    while (x.left() > 0) {
      x.check();
    }
  }

  /** Terms that are made, taken and dropped: nothing of them stays behind. */
  private static void termsAgainAndAgain() {
    Compared x = new Compared(due, "terms");
    while (x.left() >= 14) {
      x.make("n1 n2 both n3 n4 n5 if lit");
      x.function(0);
      x.main(0);
      x.drop();
      x.make("n6 lit");
      x.drop();
    }
    while (x.left() > 0) {
      x.make(0, x.left());
    }
  }

  /** All kinds of all types, far more often than there is room. */
  private static void typesAgainAndAgain() {
    Compared x = new Compared(due, "types");
    while (x.left() > 0) {
      x.type(x.left() % 3, x.left() / 3 % 25, x.left() / 5 % 25);
    }
  }

  /** The 512th call, of each method. */
  private static void eachAsTheLastCall() {
    for (int method = 0; method < METHODS; method++) {
      Compared x = withProgram("the last, method " + method, EVALUATOR, "n5 lit call");
      while (x.left() > 3) {
        x.evaluate();
      }
      x.make(1, 1);
      x.check();
      call(x, method, 0);
      due.is("calls left", x.left(), 0);
    }
  }
}
