/** Promises 9 and 10. */
public final class EvaluateTest {
  private static final Due due = new Due("EvaluateTest");

  private static final int VALUE = 0;
  private static final int SPENT = 1;
  private static final int STUCK = 2;

  /** Calls itself for what is in a LEFT, and gives back all else: LIT has 1 and LEFT 32 as bits. */
  private static final String UNWRAP = "v0 v0 v1 call cases33";

  /** As many calls as fit: 9 for each LEFT, in WHENs of WHENs. */
  private static final String MANY_CALLS =
      "v0 v0 as0 v1 call as0 v1 call as0 v1 call as0 when v1 call v1 call v1 call when "
          + "v1 call v1 call v1 call when when cases33";

  public static void main(String[] args) {
    stepsBefore();
    leaves();
    numbersAndTruths();
    ifs();
    pairs();
    makers();
    cases();
    calls();
    wrongKindsAreSeenAtOnce();
    sixHundredSteps();
    fourBodies();
    manyVariables();
    again();
    withoutTypes();
    laterCallsChangeNothing();
    due.end();
  }

  private static RigidCases run(String body, String main, int outcome, int steps) {
    RigidCases x = new RigidCases();
    Text.function(x, body, 0);
    Text.main(x, main, 0);
    due.is("evaluate " + main + " with " + body, x.evaluate(), outcome);
    due.is("steps of " + main + " with " + body, x.steps(), steps);
    if (outcome != VALUE) {
      due.is("no value of " + main, x.value(0), -1);
      due.is("no number of " + main, x.number(0), 0);
    }
    return x;
  }

  private static void number(String main, int number, int steps) {
    RigidCases x = run("v0", main, VALUE, steps);
    due.is("value of " + main, x.value(0), 1000);
    due.is("number of " + main, x.number(0), number);
  }

  private static void truth(String main, boolean truth, int steps) {
    due.is("truth of " + main, run("v0", main, VALUE, steps).value(0), truth ? 1001 : 1002);
  }

  private static void stuck(String main, int steps) {
    run("v0", main, STUCK, steps);
  }

  private static void stepsBefore() {
    RigidCases x = new RigidCases();
    due.is("steps before", x.steps(), 0);
    Text.main(x, "n1 n2 add", 0);
    x.check();
    due.is("steps still before", x.steps(), 0);
    x.evaluate();
    due.is("steps then", x.steps(), 3);
    x.evaluate();
    due.is("steps of the latest alone", x.steps(), 3);
    Text.main(x, "n1", 0);
    due.is("steps of the latest until the next", x.steps(), 3);
    x.evaluate();
    due.is("steps of the next", x.steps(), 1);
  }

  private static void leaves() {
    number("n5", 5, 1);
    number("n-2147483648", Integer.MIN_VALUE, 1);
    truth("t1", true, 1);
    truth("t0", false, 1);
    stuck("v0", 1);
    stuck("v11", 1);
  }

  private static void numbersAndTruths() {
    number("n5 n7 add", 12, 3);
    number("n2147483647 n1 add", Integer.MIN_VALUE, 3);
    number("n-2147483648 n-1 add", Integer.MAX_VALUE, 3);
    truth("n1 n2 less", true, 3);
    truth("n2 n2 less", false, 3);
    truth("n3 n2 less", false, 3);
    truth("n-2147483648 n2147483647 less", true, 3);
    truth("n2147483647 n-2147483648 less", false, 3);
  }

  private static void ifs() {
    number("t1 n1 n2 if", 1, 3);
    number("t0 n1 n2 if", 2, 3);
    number("n1 n2 less n1 n2 n3 add if", 1, 5);
    number("n2 n1 less n1 n2 n3 add if", 5, 7);
    // The part that isn't taken may be stuck.
    number("t1 n1 v0 if", 1, 3);
    number("t0 v0 n2 if", 2, 3);
    stuck("t0 n1 v0 if", 3);
    stuck("n1 n1 n2 if", 2);
    stuck("t1 bit n1 n2 if", 3);
  }

  private static void pairs() {
    number("n1 n2 both first", 1, 4);
    number("n1 n2 both second", 2, 4);
    number("n1 as0", 1, 2);
    number("n1 as1", 1, 2);
    number("n1 t1 both as0 as1 first", 1, 6);
    stuck("n1 first", 2);
    stuck("n1 second", 2);
    stuck("n1 lit n2 lit duo first", 6);
    stuck("n1 v0 both first", 4);
  }

  private static void makers() {
    int[] codes = {1011, 1012, 1013, 1014, 1015, 1016};
    String[] made = {
      "n1 lit",
      "t1 bit",
      "n1 lit n2 lit sum",
      "t1 bit n1 lit n2 lit when",
      "n1 lit t1 bit duo",
      "n1 lit t1 bit duo left"
    };
    int[] steps = {2, 2, 5, 7, 5, 6};
    for (int k = 0; k < made.length; k++) {
      due.is(made[k], run("v0", made[k], VALUE, steps[k]).value(0), codes[k]);
    }
    // Any maker's value will do where one is wanted.
    run("v0", "t1 bit n1 lit t1 bit duo sum", VALUE, 8);
    run("v0", "n1 lit t1 bit n1 lit left when", VALUE, 8);
    run("v0", "n1 lit left", VALUE, 3);
    stuck("t1 lit", 2);
    stuck("n1 lit lit", 3);
    stuck("n1 bit", 2);
    stuck("n1 left", 2);
    stuck("n1 n2 both left", 4);
    stuck("n1 lit n2 sum", 4);
    stuck("n1 n2 lit sum", 2);
    stuck("n1 n2 lit duo", 2);
    stuck("n1 lit t1 duo", 4);
    stuck("t1 n1 lit n2 lit when", 2);
    stuck("t1 bit n1 n2 lit when", 4);
    stuck("t1 bit n1 lit n2 when", 6);
    stuck("t1 bit n1 lit n2 n3 both when", 8);
  }

  private static void cases() {
    number("n5 lit v0 n1 n2 n3 n4 n6 cases63", 5, 4);
    number("t1 bit n1 n2 n3 n4 n5 n6 cases63", 2, 4);
    number("n1 lit n2 lit sum n1 n2 n3 n4 n5 n6 cases63", 3, 7);
    number("t1 bit n1 lit n2 lit when n1 n2 n3 n4 n5 n6 cases63", 4, 9);
    number("n1 lit n2 lit duo n1 n2 n3 n4 n5 n6 cases63", 5, 7);
    number("n1 lit n2 lit duo left n1 n2 n3 n4 n5 n6 cases63", 6, 8);
    number("n7 lit t1 bit duo v0 v2 cases1 cases16", 7, 9);
    // Its parts are found by its set, ascending.
    number("t1 bit n1 n2 n3 cases42", 1, 4);
    number("n1 lit left n1 n2 n3 cases42", 3, 5);
    // What it was made of stands behind the variables there, in order.
    number("n7 lit n8 lit sum v1 v2 cases1 cases4", 8, 9);
    number("n7 lit n8 lit sum v0 v2 cases1 cases4", 7, 9);
    number("t1 bit n7 lit n8 lit when v2 v3 cases1 cases8", 8, 11);
    number("t1 bit n7 lit n8 lit when v1 v3 cases1 cases8", 7, 11);
    truth("t1 bit n7 lit n8 lit when v0 v3 cases2 cases8", true, 11);
    stuck("n7 lit n8 lit sum v2 cases4", 7);
    stuck("n7 lit v1 cases1", 4);
    // Behind the CASES they are gone again.
    stuck("n7 lit v0 cases1 v0 add", 6);
    stuck("n7 lit v0 cases1 n8 lit v1 cases1 add", 9);
    number("n7 lit v0 cases1 n8 lit v0 cases1 add", 15, 9);
    // No part for the maker, or not made by one.
    stuck("n7 lit n1 cases2", 3);
    stuck("n7 lit n1 n2 n3 n4 n5 cases62", 3);
    stuck("n7 lit left n1 n2 n3 n4 n5 cases31", 4);
    stuck("n7 n1 n2 n3 n4 n5 n6 cases63", 2);
    stuck("t1 n1 n2 n3 n4 n5 n6 cases63", 2);
    stuck("n1 n2 both n1 n2 n3 n4 n5 n6 cases63", 4);
  }

  private static void calls() {
    number("n7 call", 7, 3);
    number("n7 call call call call call", 7, 11);
    due.is("a call of its own", run("v0 v0 add", "n4 call", VALUE, 5).number(0), 8);
    due.is("calls in order", run("v0 v0 add", "n4 call call", VALUE, 9).number(0), 16);
    run("v1", "n4 call", STUCK, 3);
    // The body sees its own variable alone, and the caller sees its own again.
    run("v1", "n4 lit n5 lit sum v1 call cases4", STUCK, 9);
    due.is(
        "the variables of the caller",
        run("v0", "n4 lit n5 lit sum v1 call v0 both cases4", VALUE, 11).number(4),
        4);
    due.is("variable 0 of a body", run("n3", "n4 call", VALUE, 3).number(0), 3);
    due.is(
        "a case in a body",
        run("v0 v1 v0 both cases1", "n4 lit call", VALUE, 8).number(1),
        4);
    run("v0 first", "v0 call", STUCK, 2);
    // What a body saw is gone when it is over.
    run("v0", "n4 call v0 both", STUCK, 5);
    run("v0", "n4 lit v0 call v1 both cases1", STUCK, 8);
  }

  private static void wrongKindsAreSeenAtOnce() {
    stuck("t1 n1 add", 2);
    stuck("n1 t1 add", 3);
    stuck("t1 v0 add", 2);
    stuck("t1 n1 less", 2);
    stuck("n1 t1 less", 3);
    stuck("t1 n5 call add", 2);
    // A part that would be SPENT isn't begun when the one before it is wrong.
    run("v0 call", "t1 n1 call add", STUCK, 2);
    run("v0 call", "n1 n1 call add", SPENT, 12);
    run("v0 call", "n1 n1 lit call sum", STUCK, 2);
    run("v0 call", "n1 call t1 add", SPENT, 11);
  }

  private static void sixHundredSteps() {
    run(MANY_CALLS, "n0 lit left left call", VALUE, 599);
    RigidCases x = run(MANY_CALLS, "n0 lit left left call as0", VALUE, 600);
    due.is("the value after 600 steps", x.value(0), 1014);
    run(MANY_CALLS, "n0 lit left left call n5 both", SPENT, 600);
    run(MANY_CALLS, "n5 n0 lit left left call both", SPENT, 600);
    // STUCK in the 600th step is STUCK; what would be stuck in the 601st is SPENT.
    run(MANY_CALLS, "n0 lit left left call first", STUCK, 600);
    run(MANY_CALLS, "n0 lit left left call v0 both", SPENT, 600);
    run(MANY_CALLS, "n0 lit left left left call", SPENT, 600);
    // After it was SPENT, the next evaluating begins anew.
    Text.main(x, "n0 lit left left left call", 0);
    due.is("spent", x.evaluate(), SPENT);
    due.is("no value", x.value(0), -1);
    Text.main(x, "n0 lit left left call as0", 0);
    due.is("not spent", x.evaluate(), VALUE);
    due.is("its steps", x.steps(), 600);
    due.is("its value", x.value(0), 1014);
  }

  private static void fourBodies() {
    // One body for each LEFT, and one for the LIT in them.
    run(UNWRAP, "n0 lit call", VALUE, 6);
    run(UNWRAP, "n0 lit left left left call", VALUE, 21);
    run("v0 v1 left call v1 call cases33", "n0 lit left left left call", STUCK, 23);
    run("v0 v1 call v1 call cases33", "n0 lit left left left call", SPENT, 22);
    run("v0 v1 v1 add call v1 call cases33", "n0 lit left left left call", SPENT, 24);
    // The call's part comes before: it may be stuck.
    run("v0 v5 call v1 call cases33", "n0 lit left left left call", STUCK, 22);
    // A call in a call's part is over before the outer one begins.
    run("v0", "n0 call call call call call", VALUE, 11);
    run("v0 v0 v1 call call cases33", "n0 lit left left left call", VALUE, 33);
    run("v0 call", "n0 call", SPENT, 10);
  }

  private static void manyVariables() {
    // Each CASES puts three more behind the others: 1 to 3, 4 to 6, 7 to 9, 10 to 12.
    String fourfold = "v0 v0 v0 v0 v%d cases8 cases8 cases8 cases8";
    String argument = "t1 bit n7 lit n8 lit when call";
    int[] codes = {1014, 1012, 1011, 1011};
    for (int k = 0; k < 12; k++) {
      int at = k == 0 ? 0 : 1 + (k - 1) % 3;
      RigidCases x = run(String.format(fourfold, k), argument, VALUE, 8 + 9);
      due.is("variable " + k, x.value(0), codes[at]);
      due.is("number of variable " + k, x.number(1), at == 2 ? 7 : at == 3 ? 8 : 0);
    }
    // Four bodies, each with three CASES around the call of the next.
    String body = "v0 v1 v0 v0 v3 call v8 both cases8 cases8 cases9";
    String main =
        "t1 bit n1 lit t1 bit n2 lit t1 bit n3 lit n4 lit when when when call";
    RigidCases x = run(body, main, VALUE, 18 + 3 * 10 + 3);
    int[] row = {1003, 1003, 1003, 1000, 1011, 1000, 1011, 1000, 1011, 1000};
    int[] numbers = {0, 0, 0, 4, 0, 3, 0, 2, 0, 1};
    for (int k = 0; k < row.length; k++) {
      due.is("four bodies: value(" + k + ")", x.value(k), row[k]);
      due.is("four bodies: number(" + k + ")", x.number(k), numbers[k]);
    }
  }

  private static void again() {
    RigidCases x = new RigidCases();
    Text.function(x, "v0 v0 both v0 v0 both both", 0);
    Text.main(x, "n3 call call call call", 0);
    for (int k = 0; k < 400; k++) {
      due.is("evaluate again", x.evaluate(), VALUE);
      due.is("steps again", x.steps(), 33);
    }
    due.is("value again", x.value(0), 1003);
    due.is("number again", x.number(8), 3);
  }

  private static void withoutTypes() {
    RigidCases x = new RigidCases();
    Text.function(x, "n1 t1 add", 1);
    Text.main(x, "t1 n1 both first", 0);
    due.is("the program is wrong", x.check(), 1);
    due.is("and has a value", x.evaluate(), VALUE);
    due.is("which is true", x.value(0), 1001);
    Text.main(x, "n3 as1", 1);
    due.is("AS is its part", x.evaluate(), VALUE);
    due.is("whatever type it has", x.number(0), 3);
  }

  private static void laterCallsChangeNothing() {
    RigidCases x = new RigidCases();
    Text.main(x, "n1 n2 both", 0);
    x.evaluate();
    Text.function(x, "n5", 0);
    Text.main(x, "t1", 1);
    Text.make(x, "n6 n7");
    x.drop();
    x.type(1, 0, 0);
    x.check();
    due.is("the row is of the latest evaluating", x.value(0), 1003);
    due.is("with its numbers", x.number(2), 2);
    due.is("and its steps", x.steps(), 3);
    Text.main(x, "v0", 0);
    due.is("stuck", x.evaluate(), STUCK);
    due.is("the row is gone", x.value(0), -1);
    due.is("its numbers too", x.number(2), 0);
  }
}
