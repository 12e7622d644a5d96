/** Promise 8. */
public final class CheckTest {
  private static final Due due = new Due("CheckTest");

  private static final int INT = 0;
  private static final int BOOL = 1;
  private static final int N0 = 2;
  private static final int EXP_N0 = 3;
  private static final int EXP_INT = 4;
  private static final int EXP_BOOL = 5;
  private static final int INT_BOOL = 6;
  private static final int EXP_INT_BOOL = 7;
  private static final int N1 = 8;
  private static final int EXP_N1 = 9;
  private static final int N0_N1 = 10;
  private static final int EXP_N0_N1 = 11;
  private static final int EXP_EXP_INT = 12;
  private static final int N0_N0 = 13;
  private static final int EXP_N0_N0 = 14;
  private static final int INT_INT = 15;
  private static final int EXP_INT_INT = 16;
  private static final int N2 = 17;
  private static final int EXPS = 18;

  /** All six cases of an evaluator; its result is NAME 0. */
  private static final String EVALUATOR =
      "v0 v1 v1 v1 call v2 call add v1 call v2 call v3 call if v1 call v2 call both "
          + "v1 call first cases63";

  public static void main(String[] args) {
    whatCheckAnswers();
    leaves();
    numbersAndTruths();
    pairs();
    makers();
    calls();
    asAndIf();
    casesOfKnownTypes();
    casesOfNames();
    variablesOfCases();
    equationsEndWithTheirCase();
    casesInCases();
    newNames();
    formsByEquations();
    typesBeyondTheLimits();
    highResults();
    highResultsOfExps();
    manyVariables();
    manyChecks();
    namesInMain();
    due.end();
  }

  private static RigidCases withTypes() {
    RigidCases x = new RigidCases();
    int[][] types = {
      {2, 0, 0}, {1, N0, 0}, {1, INT, 0}, {1, BOOL, 0}, {0, INT, BOOL}, {1, INT_BOOL, 0},
      {2, 1, 0}, {1, N1, 0}, {0, N0, N1}, {1, N0_N1, 0}, {1, EXP_INT, 0}, {0, N0, N0},
      {1, N0_N0, 0}, {0, INT, INT}, {1, INT_INT, 0}, {2, 2, 0}, {0, EXP_N0, EXP_N0}
    };
    for (int k = 0; k < types.length; k++) {
      due.is("type " + (k + 2), x.type(types[k][0], types[k][1], types[k][2]), k + 2);
    }
    return x;
  }

  /** A body with a result; the main term is NUMBER 0. */
  private static void body(String text, int result, boolean right) {
    RigidCases x = withTypes();
    Text.function(x, text, result);
    due.is("body " + text + " as " + result, x.check(), right ? 0 : 1);
  }

  /** A main term with a type; the function is the evaluator. */
  private static void main(String text, int type, boolean right) {
    mainWith(EVALUATOR, N0, text, type, right);
  }

  private static void mainWith(String body, int result, String text, int type, boolean right) {
    RigidCases x = withTypes();
    Text.function(x, body, result);
    Text.main(x, text, type);
    due.is("main " + text + " as " + type, x.check(), right ? 0 : 2);
  }

  /** A main term that sees what a call gives: the function never ends, so its result is free. */
  private static void given(int result, String text, int type, boolean right) {
    mainWith("v0 call", result, text, type, right);
  }

  private static void whatCheckAnswers() {
    RigidCases x = withTypes();
    due.is("new", x.check(), 0);
    Text.function(x, "t1", INT);
    due.is("the body is wrong", x.check(), 1);
    Text.main(x, "t1", INT);
    due.is("both are wrong", x.check(), 1);
    Text.function(x, "t1", BOOL);
    due.is("the main term is wrong", x.check(), 2);
    Text.main(x, "n1", INT);
    due.is("none is wrong", x.check(), 0);
    due.is("none is wrong the second time", x.check(), 0);
    due.is("checking makes no steps", x.steps(), 0);
  }

  private static void leaves() {
    main("n5", INT, true);
    main("n5", BOOL, false);
    main("t0", BOOL, true);
    main("t0", INT, false);
    main("v0", INT, false);
    main("v0", EXP_N0, false);
    body("v0", EXP_N0, true);
    body("v0", EXP_N1, false);
    body("v0", N0, false);
    body("v0", EXP_INT, false);
    body("v1", EXP_N0, false);
    body("v11", EXP_N0, false);
    main("n5", N0, false);
  }

  private static void numbersAndTruths() {
    main("n1 n2 add", INT, true);
    main("n1 n2 add", BOOL, false);
    main("t1 n2 add", INT, false);
    main("n1 t1 add", INT, false);
    main("n1 n2 less", BOOL, true);
    main("n1 n2 less", INT, false);
    main("t1 n2 less", BOOL, false);
    main("n1 t0 less", BOOL, false);
    // Parts of ADD and LESS are checked, so IF and CASES may stand there.
    main("t1 n1 n2 if n3 add", INT, true);
    main("n3 t1 n1 n2 if less", BOOL, true);
    main("t1 n1 t1 if n3 add", INT, false);
    main("n3 lit v0 n0 n0 n0 cases45 n3 add", INT, true);
  }

  private static void pairs() {
    main("n1 t1 both", INT_BOOL, true);
    main("t1 n1 both", INT_BOOL, false);
    main("n1 t1 both first", INT, true);
    main("n1 t1 both first", BOOL, false);
    main("n1 t1 both second", BOOL, true);
    main("n1 t1 both second", INT, false);
    main("n1 first", INT, false);
    main("n1 second", INT, false);
    main("n1 lit first", INT, false);
    main("n1 lit second", INT, false);
    main("n1 v0 both first", INT, false);
    // Parts of BOTH are found, where IF and CASES are wrong.
    main("t1 n1 n2 if t1 both", INT_BOOL, false);
    main("t1 n1 n2 if as0 t1 both", INT_BOOL, true);
    main("n1 t1 t1 t1 if both", INT_BOOL, false);
    main("t1 n1 t1 both n2 t0 both if", INT_BOOL, true);
    main("t1 n1 t1 both n2 t0 both if first", INT, false);
    body("v0 first", N0, false);
  }

  private static void makers() {
    main("n1 lit", EXP_INT, true);
    main("n1 lit", INT, false);
    main("t1 lit", EXP_INT, false);
    main("t1 n1 n2 if lit", EXP_INT, true);
    main("t1 bit", EXP_BOOL, true);
    main("n1 bit", EXP_BOOL, false);
    main("t1 t1 t0 if bit", EXP_BOOL, true);
    main("n1 lit n2 lit sum", EXP_INT, true);
    main("n1 lit n2 sum", EXP_INT, false);
    main("n1 n2 lit sum", EXP_INT, false);
    main("n1 lit t1 bit sum", EXP_INT, false);
    main("t1 bit n1 lit sum", EXP_INT, false);
    main("t1 n1 lit n2 lit if n2 lit sum", EXP_INT, true);
    main("t1 bit n1 lit n2 lit when", EXP_INT, true);
    main("t1 bit t1 bit t0 bit when", EXP_BOOL, true);
    main("n1 lit n1 lit n2 lit when", EXP_INT, false);
    main("t1 bit n1 lit t1 bit when", EXP_INT, false);
    main("t1 bit t1 bit n1 lit when", EXP_INT, false);
    main("t1 bit n1 n2 when", INT, false);
    main("t1 bit n1 lit n2 lit when", INT, false);
    // Of WHEN the second part is found, the others are checked.
    main("t1 t1 bit t0 bit if n1 lit n2 lit when", EXP_INT, true);
    main("t1 bit n1 lit t1 n1 lit n2 lit if when", EXP_INT, true);
    main("t1 bit t1 n1 lit n2 lit if n2 lit when", EXP_INT, false);
    main("n1 lit t1 bit duo", EXP_INT_BOOL, true);
    main("t1 bit n1 lit duo", EXP_INT_BOOL, false);
    main("n1 t1 bit duo", EXP_INT_BOOL, false);
    main("n1 lit t1 duo", EXP_INT_BOOL, false);
    main("t1 n1 lit n1 lit if t1 bit duo", EXP_INT_BOOL, false);
    main("n1 lit t1 n1 bit t1 bit if duo", EXP_INT_BOOL, false);
    main("n1 lit t1 bit duo left", EXP_INT, true);
    main("n1 lit t1 bit duo left", EXP_BOOL, false);
    main("n1 lit left", EXP_INT, false);
    main("n1 t1 both left", EXP_INT, false);
    main("t1 n1 lit t1 bit duo n2 lit t1 bit duo if left", EXP_INT, false);
    body("v0 v0 duo", EXP_N0_N0, true);
    body("v0 v0 duo left", EXP_N0, true);
    body("v0 left", EXP_N0, false);
    body("t1 bit v0 v0 when", EXP_N0, true);
    body("v0 v0 sum", EXP_INT, false);
  }

  private static void calls() {
    main("n1 lit call", INT, true);
    main("n1 lit call", BOOL, false);
    main("n1 lit call", N0, false);
    main("t1 bit call", BOOL, true);
    main("n1 lit t1 bit duo call", INT_BOOL, true);
    main("n1 call", INT, false);
    main("n1 t1 both call", INT_BOOL, false);
    main("t1 n1 lit n2 lit if call", INT, false);
    main("t1 n1 lit n2 lit if as4 call", INT, true);
    body("v0 call", N0, true);
    body("v0 call", EXP_N0_N1, true);
    body("n1 lit call", N0, false);
    body("n1 lit call", INT, true);
    body("n1 lit call", EXP_N0, false);
    body("v0 v0 duo call", N0_N0, false);
    body("v0 v0 duo call first", N0, true);
    given(N0_N0, "n1 lit call", INT_INT, true);
    given(N0_N0, "n1 lit call", N0_N0, false);
    given(N0_N1, "n1 lit call first", INT, true);
    given(N0_N1, "n1 lit call second", INT, false);
    given(N0_N1, "n1 lit call second", N1, true);
    given(EXP_N0_N0, "n1 lit call call first", INT, false);
    given(EXP_N0_N0, "n1 lit call", EXP_INT_INT, true);
    given(EXPS, "n1 lit call second", EXP_INT, true);
    given(BOOL, "n1 lit call", BOOL, true);
    given(N2, "n1 lit call", N2, true);
    given(N2, "n1 lit call", INT, false);
  }

  private static void asAndIf() {
    main("n1 as0", INT, true);
    main("n1 as1", BOOL, false);
    main("n1 as0", BOOL, false);
    main("t1 n1 n2 if as0 as0", INT, true);
    main("t1 n1 n2 if", INT, true);
    main("n1 n1 n2 if", INT, false);
    main("t1 t1 n2 if", INT, false);
    main("t1 n1 t1 if", INT, false);
    main("t1 t1 n2 if", BOOL, false);
    main("t1 t1 t1 if n1 n2 if", INT, true);
    main("t0 n1 t1 n3 n4 if if", INT, true);
    main("t0 n1 t1 n3 t1 if if", INT, false);
    body("v0 as3", EXP_N0, true);
    body("v0 as4", EXP_INT, false);
  }

  private static void casesOfKnownTypes() {
    // An EXP of INT: BIT and DUO are closed.
    main("n3 lit v0 n0 n0 n0 cases45", INT, true);
    main("n3 lit v0 n0 n0 n0 n0 n0 cases63", INT, true);
    main("n3 lit v0 t1 n0 n0 v9 n0 cases63", INT, true);
    main("n3 lit v0 v7 first n0 n0 n0 cases47", INT, true);
    main("n3 lit n0 n0 n0 cases44", INT, false);
    main("n3 lit v0 n0 n0 cases41", INT, false);
    main("n3 lit v0 n0 n0 cases37", INT, false);
    main("n3 lit v0 n0 n0 cases13", INT, false);
    main("n3 lit t1 n0 n0 n0 cases45", INT, false);
    main("n3 lit n0 t1 n0 n0 cases45", INT, false);
    main("n3 lit n0 n0 t1 n0 cases45", INT, false);
    main("n3 lit n0 n0 n0 t1 cases45", INT, false);
    // An EXP of BOOL: LIT, SUM and DUO are closed.
    main("t1 bit n1 n2 n3 cases42", INT, true);
    main("t1 bit n2 n3 cases40", INT, false);
    main("t1 bit t1 n1 v8 n2 t1 n3 cases63", INT, true);
    // An EXP of a pair: LIT, BIT and SUM are closed.
    main("n1 lit t1 bit duo n2 n1 n3 cases56", INT, true);
    main("n1 lit t1 bit duo n2 n3 cases40", INT, false);
    main("n1 lit t1 bit duo n2 n3 cases48", INT, false);
    main("n1 lit t1 bit duo n2 n3 cases24", INT, false);
    main("n1 lit t1 bit duo t1 t1 t1 n2 n1 n3 cases63", INT, true);
    // An EXP of an EXP: WHEN and LEFT alone are open.
    given(EXP_EXP_INT, "n1 lit call n2 n3 cases40", INT, true);
    given(EXP_EXP_INT, "n1 lit call n3 cases32", INT, false);
    given(EXP_EXP_INT, "n1 lit call n3 cases8", INT, false);
    given(EXP_EXP_INT, "n1 lit call t1 t1 t1 n2 t1 n3 cases63", INT, true);
    // What isn't an EXP has no cases, and CASES has no type that is found.
    main("n3 n0 n0 n0 n0 n0 n0 cases63", INT, false);
    main("n1 t1 both n0 n0 n0 n0 n0 n0 cases63", INT, false);
    main("t1 n3 lit n4 lit if v0 n0 n0 n0 cases45", INT, false);
    main("n3 lit v0 n0 n0 n0 cases45 as0", INT, true);
    main("n3 lit v0 n0 n0 n0 cases45 n1 both", INT_INT, false);
  }

  private static void casesOfNames() {
    body(EVALUATOR, N0, true);
    body("v0 v1 t1 n1 v2 call v1 call v2 call both v1 call first cases63", N0, true);
    body("v0 v1 n1 n1 v2 call v1 call v2 call both v1 call first cases63", N0, false);
    body("v0 v1 t1 n1 v1 call v1 call v2 call both v1 call first cases63", N0, false);
    body("v0 v1 t1 n1 v2 call v2 call v1 call both v1 call first cases63", N0, false);
    body("v0 v1 t1 n1 v2 call v1 call v2 call both v1 call second cases63", N0, false);
    body("v0 n0 n0 n0 n0 n0 n0 cases63", INT, true);
    // All six are open for a name.
    body("v0 n0 n0 n0 n0 n0 cases62", INT, false);
    body("v0 n0 n0 n0 n0 n0 cases61", INT, false);
    body("v0 n0 n0 n0 n0 n0 cases59", INT, false);
    body("v0 n0 n0 n0 n0 n0 cases55", INT, false);
    body("v0 n0 n0 n0 n0 n0 cases47", INT, false);
    body("v0 n0 n0 n0 n0 n0 cases31", INT, false);
    // Each case's own equation, and no other's.
    body("v0 t1 t1 n0 v2 call v1 call v1 call cases63", N0, false);
    body("v0 n0 n0 n0 v2 call v0 call v0 call cases63", N0, false);
    body("v0 n0 t0 t0 v2 call v0 call v0 call cases63", N0, false);
    body("v0 n0 t0 n0 v2 call v0 call v0 call cases63", N0, true);
    body("v0 n0 t0 n0 n0 v0 call v0 call cases63", N0, false);
    body("v0 n0 t0 n0 v0 call n0 v0 call cases63", N0, false);
    body("v0 n0 t0 n0 v0 call v0 call n0 cases63", N0, false);
    body("v0 n0 t0 n0 v0 call v0 call t0 cases63", N0, false);
  }

  private static void variablesOfCases() {
    body("v0 v1 n0 n0 n0 n0 n0 cases63", INT, true);
    body("v0 v2 n0 n0 n0 n0 n0 cases63", INT, false);
    body("v0 t0 v1 t0 t0 t0 t0 cases63", BOOL, true);
    body("v0 t0 v2 t0 t0 t0 t0 cases63", BOOL, false);
    body("v0 n0 lit n0 lit v1 n0 lit n0 lit n0 lit cases63", EXP_INT, true);
    body("v0 n0 lit n0 lit v2 n0 lit n0 lit n0 lit cases63", EXP_INT, true);
    body("v0 n0 lit n0 lit v3 n0 lit n0 lit n0 lit cases63", EXP_INT, false);
    body("v0 t0 bit t0 bit t0 bit v1 t0 bit t0 bit cases63", EXP_BOOL, true);
    body("v0 v0 v0 v0 v1 v0 v0 cases63", EXP_N0, false);
    body("v0 v0 v0 v0 v2 v0 v0 cases63", EXP_N0, true);
    body("v0 v0 v0 v0 v3 v0 v0 cases63", EXP_N0, true);
    body("v0 v0 v0 v0 v4 v0 v0 cases63", EXP_N0, false);
    body("v0 v0 v0 v0 v0 v1 v2 duo v0 cases63", EXP_N0, true);
    body("v0 v0 v0 v0 v0 v2 v1 duo v0 cases63", EXP_N0, false);
    body("v0 v0 v0 v0 v0 v1 v0 cases63", EXP_N0, false);
    body("v0 v0 v0 v0 v0 v3 v0 cases63", EXP_N0, false);
    body("v0 v0 v0 v0 v0 v0 v1 left cases63", EXP_N0, true);
    body("v0 v0 v0 v0 v0 v0 v1 cases63", EXP_N0, false);
    body("v0 v0 v0 v0 v0 v0 v2 cases63", EXP_N0, false);
    // Of a known pair, the new names are its parts.
    main("n1 lit t1 bit duo n0 lit v0 n0 lit cases56", EXP_INT, true);
    main("n1 lit t1 bit duo n0 lit v1 n0 lit cases56", EXP_INT, false);
    main("n1 lit t1 bit duo t1 bit v1 t1 bit cases56", EXP_BOOL, true);
    main("n1 lit t1 bit duo v1 v0 v1 duo v0 left cases56", EXP_INT_BOOL, true);
  }

  private static void equationsEndWithTheirCase() {
    // What LIT tells is not known in WHEN and LEFT, nor after the CASES.
    body("v0 n0 t0 n0 n0 v0 call v0 call cases63", N0, false);
    body("v0 n0 n0 n0 n0 n0 n0 cases63 as0 n1 add", N0, false);
    body("v0 n0 n0 n0 n0 n0 n0 cases63 as0 lit", EXP_INT, true);
    body("v0 n0 n0 n0 n0 n0 n0 cases63 as0 lit", EXP_N0, false);
    // A wrong part must leave nothing behind for the next check.
    RigidCases x = withTypes();
    Text.function(x, "v0 t0 n0 n0 n0 n0 n0 cases63", N0);
    due.is("wrong in its first case", x.check(), 1);
    Text.function(x, "n0", N0);
    due.is("NAME 0 is no INT now", x.check(), 1);
    Text.function(x, "v0 n0 t0 n0 v0 call v0 call v0 first cases63", N0);
    due.is("wrong in its last case", x.check(), 1);
    Text.function(x, "n1 t1 both", N0);
    due.is("NAME 0 is no pair now", x.check(), 1);
    Text.function(x, EVALUATOR, N0);
    due.is("and a right one is right", x.check(), 0);
    due.is("again", x.check(), 0);
  }

  private static void casesInCases() {
    // In the LIT case NAME 0 is INT, so BIT and DUO of the same are closed there.
    body("v0 v0 n1 n2 n3 n4 cases45 t0 n0 v0 call v0 call v0 call cases63", N0, true);
    body("v0 v0 n1 n3 n4 cases41 t0 n0 v0 call v0 call v0 call cases63", N0, false);
    body("v0 v0 n1 n2 n3 n4 cases45 t0 n0 v0 call v0 call v0 call cases63", INT, false);
    // In the DUO case LIT, BIT and SUM of the same are closed.
    body("v0 v0 v0 v0 v0 v0 v0 v0 v0 cases56 v0 cases63", EXP_N0, true);
    body("v0 v0 v0 v0 v0 v0 v0 v0 cases48 v0 cases63", EXP_N0, false);
    // In the WHEN case nothing is known more.
    body("v0 v0 v0 v0 v2 v0 v0 v0 v0 v0 v0 cases63 v0 v0 cases63", EXP_N0, true);
    body("v0 v0 v0 v0 v2 v0 v0 v0 v0 v0 cases62 v0 v0 cases63", EXP_N0, false);
    // A part of a pair is told on its own: v1 of DUO is told BIT, v0 then is an EXP of BOOL and x.
    body(
        "v0 v0 v0 v0 v0 v1 v0 t1 bit v2 duo v0 v0 v0 v0 cases63 v0 cases63", EXP_N0, true);
    body(
        "v0 v0 v0 v0 v0 v1 t1 bit v2 duo v0 v0 v0 v0 v0 cases63 v0 cases63", EXP_N0, false);
    // The more variables stand behind those of the outer case: 0, then 1 to 3, then 4.
    body("v0 v1 n0 n0 v2 v4 n0 n0 n0 n0 n0 cases63 n0 n0 cases63", INT, true);
    body("v0 v1 n0 n0 v2 v1 n0 n0 n0 n0 n0 cases63 n0 n0 cases63", INT, false);
    body("v0 v1 n0 n0 v2 v5 n0 n0 n0 n0 n0 cases63 n0 n0 cases63", INT, false);
    // Behind an inner CASES its variables are gone.
    body("v0 n0 n0 n0 v2 n0 n0 n0 n0 n0 n0 cases63 as0 v4 add n0 n0 cases63", INT, false);
  }

  private static void newNames() {
    // The two names of DUO are unlike, and so are those of two DUOs and of LEFT.
    body("v0 v0 v0 v0 v0 t1 bit v1 v1 when v2 duo v0 cases63", EXP_N0, true);
    body("v0 v0 v0 v0 v0 t1 bit v1 v2 when v2 duo v0 cases63", EXP_N0, false);
    body("v0 v0 v0 v0 v2 v0 v0 v0 v0 v4 v5 duo v0 cases63 v0 v0 cases63", EXP_N0, true);
    // A LEFT's pair is of the inside and a name that no call can make known.
    body("v0 v0 v0 v0 v0 v0 v1 v2 v0 v3 left cases56 cases63", EXP_N0, false);
    body("v0 v0 v0 v0 v0 v0 v1 v0 v2 v0 cases56 cases63", EXP_N0, true);
    body("v0 v0 v0 v0 v0 v0 v1 v0 v3 v0 cases56 cases63", EXP_N0, false);
    body("v0 n0 n0 n0 n0 n0 v1 call second cases63", INT, false);
    body("v0 v0 call v0 call v0 call v0 call v0 call v1 call first cases63", N0, true);
    body("v0 v0 call v0 call v0 call v0 call v0 call v1 call second cases63", N0, false);
  }

  private static void formsByEquations() {
    // FIRST, SECOND, LEFT and CALL look through what a case has told.
    body("v0 n0 n0 n0 n0 v0 call first as2 lit n0 cases63", N0, false);
    body(
        "v0 v0 call v0 call v0 call v0 call v0 call first v0 call second both v0 call cases63",
        N0,
        true);
    body(
        "v0 v0 call v0 call v0 call v0 call v0 call second v0 call first both v0 call cases63",
        N0,
        false);
    body("v0 v0 v0 v0 v0 v0 left v2 duo v0 cases63", EXP_N0, true);
    body("v0 v0 v0 left v0 v0 v0 v0 cases63", EXP_N0, false);
    body("v0 v0 call n1 add n0 n0 n0 n0 n0 cases63", INT, true);
    // With RESULT NAME 0 the recursive call of an EXP of NAME 0 is an INT in the LIT case.
    body("v0 v0 call n1 add t0 n0 v0 call v0 call v0 call cases63", N0, true);
    body("v0 n1 t0 n0 v0 call v0 call n1 add v0 call cases63", N0, false);
    body("v0 n1 t0 n0 v0 call v0 call v0 call n1 add cases63", N0, false);
    // NAME 0 of the result is replaced by what the call is of, whatever a case told of it.
    body("v0 t1 bit call t0 n0 v0 call v0 call v0 call cases63", N0, false);
    body("v0 n1 lit call n1 add t0 n0 v0 call v0 call v0 call cases63", N0, true);
    body("v0 n1 lit call t1 bit call n0 v0 call v0 call v0 call cases63", N0, true);
    // A subject whose EXP has the form of an EXP only by what was told.
    given(EXP_N1, "n1 lit call n1 t1 t1 n1 n2 n3 cases63", INT, false);
    given(EXP_N1, "n1 lit call n1 n1 n1 n1 n2 n3 cases63", INT, true);
  }

  private static void typesBeyondTheLimits() {
    // The types that are found may be higher than 4, and more than 24.
    body("v0 v0 duo v0 v0 duo duo v0 v0 duo v0 v0 duo duo duo left left", EXP_N0_N0, true);
    body("v0 v0 duo v0 v0 duo duo v0 v0 duo v0 v0 duo duo duo left left", EXP_N0_N1, false);
    main("n1 n2 both n3 both n4 both n5 both second", INT, true);
    main("n1 n2 both n3 both n4 both n5 both first", INT_INT, false);
    given(EXP_N0_N0, "n1 lit call call call left", EXP_INT_INT, false);
    given(EXP_N0_N0, "n1 lit call call left", EXP_INT_INT, true);
    RigidCases x = new RigidCases();
    x.type(2, 0, 0);
    x.type(1, 0, 0);
    for (int made = 4; made < 24; made++) {
      due.is("type " + made, x.type(0, (made - 4) / 4, (made - 4) % 4), made > 23 ? -2 : made);
    }
    Text.function(x, "v0 v0 v0 v0 v0 v0 v1 left cases63 as2", 2);
    due.is("a wrong body among 24 types", x.check(), 1);
    Text.function(x, EVALUATOR, 2);
    Text.main(x, "n1 lit n2 lit duo n3 lit duo call second", 0);
    due.is("an evaluator among 24 types", x.check(), 0);
    due.is("a 25th still has no room", x.type(1, 1, 0), -2);
  }

  /** Results of height 4, NAME 0 being as deep as it can. */
  private static void highResults() {
    RigidCases x = withTypes();
    int left = x.type(0, x.type(0, N0_N1, INT), INT);
    int right = x.type(0, INT, x.type(0, INT, x.type(0, INT, N0)));
    Text.function(x, "v0 call", left);
    Text.main(x, "t1 bit call first first first", BOOL);
    due.is("first of all", x.check(), 0);
    Text.main(x, "t1 bit call first first second", N1);
    due.is("another name stays", x.check(), 0);
    Text.main(x, "t1 bit call first first first", N0);
    due.is("not NAME 0", x.check(), 2);
    Text.function(x, "v0 call", right);
    Text.main(x, "t1 bit call second second second", BOOL);
    due.is("second of all", x.check(), 0);
    Text.main(x, "t1 bit call second second second", INT);
    due.is("not INT", x.check(), 2);
  }

  private static void highResultsOfExps() {
    RigidCases x = withTypes();
    int exps = x.type(1, x.type(1, EXP_N0, 0), 0);
    Text.function(x, "v0 call", exps);
    Text.main(x, "n1 lit call", x.type(1, EXP_EXP_INT, 0));
    due.is("exps of INT", x.check(), 0);
    Text.main(x, "n1 lit call", exps);
    due.is("exps of INT, not of NAME 0", x.check(), 2);
    Text.function(x, "v0 v0 call v0 call v0 call v0 call v0 call v0 call cases63", exps);
    due.is("exps of NAME 0, whatever it is told to be", x.check(), 2);
    String told = "v0 %s t1 bit call n1 lit call v2 call v0 call v0 call cases63";
    Text.function(x, String.format(told, "n1 lit call"), exps);
    due.is("exps of what it is told to be", x.check(), 2);
    Text.function(x, String.format(told, "t1 bit call"), exps);
    due.is("exps of something else", x.check(), 1);
  }

  private static void manyVariables() {
    // In five WHEN cases of an EXP EXP INT, three variables each: an EXP BOOL and two of these.
    String inner = "n1 lit call v1 v4 v7 v10 v%d v1 cases40 v1 cases40 v1 cases40 v1 cases40";
    for (int k = 0; k < 12; k++) {
      String text = String.format(inner, k) + " v0 left cases40";
      given(EXP_EXP_INT, text, EXP_EXP_INT, k % 3 != 0);
    }
  }

  /** As many checks as an object is used for, of a body that builds many types. */
  private static void manyChecks() {
    RigidCases x = withTypes();
    Text.function(x, EVALUATOR, N0);
    String main = "n1 lit t1 bit duo left v0 v0 call v1 call add n1 v0 left call cases45";
    Text.main(x, main, INT);
    for (int k = 0; k < 400; k++) {
      due.is("check again", x.check(), 0);
    }
  }

  private static void namesInMain() {
    // In the main term NAMES 0, 1, 2 are types like others, and a case tells what they are.
    given(N0_N1, "n1 lit call second", N1, true);
    given(N0_N1, "n1 lit call second", N2, false);
    given(EXP_N1, "n1 lit call", EXP_N1, true);
    given(EXP_N1, "n1 lit call", EXP_INT, false);
    given(EXP_N1, "n1 lit call v0 lit t1 bit n0 lit v1 v0 v1 duo v0 left cases63", EXP_N1, true);
    given(EXP_N1, "n1 lit call v0 lit n0 lit n0 lit v1 v0 v1 duo v0 left cases63", EXP_N1, false);
    given(EXP_N1, "n1 lit call n0 n0 n0 n0 n0 n0 cases63", N1, false);
    given(EXP_N1, "n1 lit call call", EXP_N1, true);
  }
}
