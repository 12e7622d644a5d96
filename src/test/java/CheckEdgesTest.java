/** Promise 8 at its edges: a method for each sentence of CHECKING that names one. */
public final class CheckEdgesTest {
  private static final Due due = new Due("CheckEdgesTest");

  private static final int INT = 0;
  private static final int BOOL = 1;
  private static final int N0 = 2;
  private static final int EXP_N0 = 3;
  private static final int EXP_INT = 4;
  private static final int EXP_BOOL = 5;
  private static final int INT_BOOL = 6;
  private static final int EXP_INT_BOOL = 7;
  private static final int N1 = 8;
  private static final int EXP_N1 = 9;
  private static final int N2 = 10;
  private static final int EXP_N2 = 11;
  private static final int N1_N2 = 12;
  private static final int EXP_N1_N2 = 13;
  private static final int EXP_EXP_INT = 14;
  private static final int EXP_EXP_N0 = 15;
  private static final int N0_EXP_EXP_N0 = 16;
  private static final int INT_INT = 17;
  private static final int BOOL_INT = 18;
  private static final int EXP_N1_INT = 20;
  private static final int TYPES = 21;

  private static final int LIT = 0;
  private static final int BIT = 1;
  private static final int SUM = 2;
  private static final int WHEN = 3;
  private static final int DUO = 4;
  private static final int LEFT = 5;

  /** No such variable: wrong wherever it is looked at. */
  private static final String WRONG = "v11";

  public static void main(String[] args) {
    whatCheckAnswers();
    checkingChangesNothing();
    aTypeIsEqualToItselfAlone();
    whatIsEquated();
    pairsAndExpsOfEqualTypes();
    partsOfEqualPairsAndExps();
    symmetryAndTransitivity();
    impossibleForKnownTypes();
    impossibleByWhatWasTold();
    impossibleByWhatWasToldOfAPart();
    noTypeIsAPartOfItself();
    aClosedPartIsNotLookedAt();
    whatHasTheForm();
    whatHasTheFormByEquations();
    ifAndCasesAreNotFound();
    ifAndCasesAreChecked();
    noSuchVariable();
    noSuchVariableInACase();
    theTwelfthVariable();
    typesOfTheVariables();
    newNamesAreLikeNoOthers();
    resultAtAnotherType();
    asManyTypesAsItTakes();
    asHighAsItTakes();
    due.end();
  }

  private static RigidCases withTypes() {
    RigidCases x = new RigidCases();
    int[][] types = {
      {2, 0, 0}, {1, N0, 0}, {1, INT, 0}, {1, BOOL, 0}, {0, INT, BOOL}, {1, INT_BOOL, 0},
      {2, 1, 0}, {1, N1, 0}, {2, 2, 0}, {1, N2, 0}, {0, N1, N2}, {1, N1_N2, 0},
      {1, EXP_INT, 0}, {1, EXP_N0, 0}, {0, N0, EXP_EXP_N0}, {0, INT, INT}, {0, BOOL, INT},
      {0, N1, INT}, {1, 19, 0}
    };
    for (int k = 0; k < types.length; k++) {
      due.is("type " + (k + 2), x.type(types[k][0], types[k][1], types[k][2]), k + 2);
    }
    return x;
  }

  /** A body with a result; the main term is NUMBER 0. */
  private static void body(String text, int result, boolean right) {
    RigidCases x = withTypes();
    Text.function(x, text, result);
    due.is("body " + text + " as " + result, x.check(), right ? 0 : 1);
  }

  /** A main term that sees what a call gives: the function never ends, so its result is free. */
  private static void given(int result, String text, int type, boolean right) {
    RigidCases x = withTypes();
    Text.function(x, "v0 call", result);
    Text.main(x, text, type);
    due.is("main " + text + " as " + type + " with " + result, x.check(), right ? 0 : 2);
  }

  private static void main(String text, int type, boolean right) {
    given(N0, text, type, right);
  }

  /** CASES of a subject, with a part for each maker, or null. */
  private static String cases(String subject, String... parts) {
    StringBuilder text = new StringBuilder(subject);
    int set = 0;
    for (int maker = 0; maker < 6; maker++) {
      if (parts[maker] != null) {
        text.append(' ').append(parts[maker]);
        set |= 1 << maker;
      }
    }
    return text.append(" cases").append(set).toString();
  }

  /** CASES with the same part for all makers but one. */
  private static String casesBut(String subject, String others, int maker, String part) {
    String[] parts = {others, others, others, others, others, others};
    parts[maker] = part;
    return cases(subject, parts);
  }

  /** Promise 8: "0 when the program is well typed, 1 .. (also if both are), 2 ..". */
  private static void whatCheckAnswers() {
    String[] bodies = {"n1", "t1"};
    for (int k = 0; k < 4; k++) {
      RigidCases x = new RigidCases();
      Text.function(x, bodies[k / 2], 0);
      Text.main(x, bodies[k % 2], 0);
      due.is("body " + bodies[k / 2] + ", main " + bodies[k % 2], x.check(), k >= 2 ? 1 : k * 2);
    }
    RigidCases x = new RigidCases();
    Text.main(x, "v0", 0);
    due.is("the main term has no variables", x.check(), 2);
    RigidCases y = new RigidCases();
    Text.function(y, "v0", y.type(1, y.type(2, 0, 0), 0));
    due.is("the body has one", y.check(), 0);
  }

  /** Checking leaves no types, terms, steps or values behind, whatever it answers. */
  private static void checkingChangesNothing() {
    String[] mains = {"n1 lit t1 bit duo call", "n1 t1 n2 if", "v0", "n1 n2 both"};
    for (String text : mains) {
      RigidCases[] twins = {withTypes(), withTypes()};
      for (RigidCases x : twins) {
        Text.function(x, casesBut("v0", "v0 call", LIT, "n1"), N0);
        Text.main(x, "n1 n2 both", INT);
        x.evaluate();
        Text.main(x, text, INT);
        Text.make(x, "n3 lit n4");
      }
      int answer = twins[0].check();
      for (int k = 0; k < 20; k++) {
        due.is("check again of " + text, twins[0].check(), answer);
      }
      Alike.are(due, "checked " + text, twins[0], twins[1]);
    }
  }

  /** "equal are a type and itself"; "(NAMES 0, 1, 2 are equal to nothing by themselves.)". */
  private static void aTypeIsEqualToItselfAlone() {
    for (int result = 0; result < TYPES; result++) {
      // At INT, NAME 0 is INT: those with a NAME 0 are left to resultAtAnotherType.
      boolean hasName = result == N0 || result == EXP_N0 || result == EXP_EXP_N0;
      for (int type = 0; type < TYPES && !hasName && result != N0_EXP_EXP_N0; type++) {
        given(result, "n1 lit call", type, result == type);
      }
    }
    for (int type = 0; type < TYPES; type++) {
      body("v0", type, type == EXP_N0);
    }
  }

  /** "what is equated": LIT, SUM e and INT, BIT e and BOOL, DUO e and a pair, WHEN, LEFT none. */
  private static void whatIsEquated() {
    String pair = "v1 call v2 call both";
    for (int maker = 0; maker < 6; maker++) {
      body(casesBut("v0", "v0 call", maker, "n7"), N0, maker == LIT || maker == SUM);
      body(casesBut("v0", "v0 call", maker, "t1"), N0, maker == BIT);
      body(casesBut("v0", "v0 call", maker, pair), N0, maker == DUO);
      body(casesBut("v0", "v0 call", maker, "v0 call"), N0, true);
      body(casesBut("v0", "v0 call", maker, "v0"), N0, false);
    }
  }

  /** "PAIRS of equal types, EXPS of equal types": what a case told is seen inside of others. */
  private static void pairsAndExpsOfEqualTypes() {
    for (int maker = 0; maker < 6; maker++) {
      boolean isInt = maker == LIT || maker == SUM;
      boolean isBool = maker == BIT;
      String both = "v0 call v0 call both as";
      body(casesBut("v0", "v0 call", maker, both + INT_INT + " first"), N0, isInt);
      body(casesBut("v0", "v0 call", maker, both + INT_BOOL + " first"), N0, false);
      String half = "v0 call n1 both as" + BOOL_INT + " first";
      body(casesBut("v0", "v0 call", maker, half), N0, isBool);
      body(casesBut("v0", "v0 call", maker, "v0 as" + EXP_INT + " call"), N0, isInt);
      body(casesBut("v0", "v0 call", maker, "v0 as" + EXP_BOOL + " call"), N0, isBool);
      body(casesBut("v0", "v0 call", maker, "v0 as" + EXP_N0 + " call"), N0, true);
      body(casesBut("v0", "v0 call", maker, "v0 as" + EXP_N1 + " call"), N0, false);
    }
  }

  /** "and the parts of equal pairs and of equal exps". */
  private static void partsOfEqualPairsAndExps() {
    // The pair of INT and BOOL is equal to the pair of the new names, so their parts are.
    String known = "n1 lit t1 bit duo";
    main(cases(known, null, null, null, "n0 lit", "v0", "n0 lit"), EXP_INT, true);
    main(cases(known, null, null, null, "n0 lit", "v1", "n0 lit"), EXP_INT, false);
    main(cases(known, null, null, null, "t1 bit", "v1", "t1 bit"), EXP_BOOL, true);
    main(cases(known, null, null, null, "t1 bit", "v0", "t1 bit"), EXP_BOOL, false);
    // A new name that is equal to an EXP has its form, and what it is of is INT.
    String exps = "n1 lit call second t1 bit duo";
    String inner = "v0 call first call first";
    String[] parts = {null, null, null, "n0", inner, "n0"};
    given(N0_EXP_EXP_N0, cases(exps, parts), INT, true);
    String[] truths = {null, null, null, "t0", inner, "t0"};
    given(N0_EXP_EXP_N0, cases(exps, truths), BOOL, false);
  }

  /** "by symmetry and transitivity": NAME 1 and NAME 2 are equal if both are INT. */
  private static void symmetryAndTransitivity() {
    String fill = "n0 lit";
    for (int first = LIT; first <= SUM; first++) {
      for (int second = LIT; second <= LEFT; second++) {
        boolean sameInt = first != BIT && (second == LIT || second == SUM);
        String inner = casesBut("v1", fill, second, "v0 as" + EXP_N2);
        String outer = casesBut("v0", fill, first, inner);
        String text = cases("n1 lit call", null, null, null, fill, outer, fill);
        given(EXP_N1_N2, text, EXP_INT, sameInt);
      }
    }
    // INT and NAME 0 are equal, and NAME 0 and INT.
    body(casesBut("v0", "n0 lit call", LIT, "v0 call n1 add"), INT, true);
    body(casesBut("v0", "n0 lit call", WHEN, "v0 call n1 add"), INT, true);
    body(casesBut("v0", "v0 call", LIT, "v0 call n1 add"), N0, true);
    body(casesBut("v0", "v0 call", WHEN, "v0 call n1 add"), N0, false);
    body(casesBut("v0", "v0 call", BIT, "v0 call n1 add"), N0, false);
  }

  /** Whether a case is closed: not there, wrong, and right, on an otherwise right CASES. */
  private static void closed(int result, String subject, String open) {
    for (int maker = 0; maker < 6; maker++) {
      boolean isClosed = open.charAt(maker) == '-';
      given(result, casesBut(subject, "n0", maker, null), INT, isClosed);
      given(result, casesBut(subject, "n0", maker, WRONG), INT, isClosed);
      given(result, casesBut(subject, "n0", maker, "t0"), INT, isClosed);
      given(result, casesBut(subject, "n0", maker, "n0"), INT, true);
    }
  }

  /** "IMPOSSIBLE if .. an INT, BOOL, a pair or an exp is equal to one of another .. kind". */
  private static void impossibleForKnownTypes() {
    // An x for each of LIT, BIT, SUM, WHEN, DUO, LEFT that is open.
    closed(N0, "n1 lit", "x-xx-x");
    closed(N0, "t1 bit", "-x-x-x");
    closed(N0, "n1 lit t1 bit duo", "---xxx");
    closed(EXP_EXP_INT, "n1 lit call", "---x-x");
    closed(EXP_N1, "n1 lit call", "xxxxxx");
    closed(EXP_N1_INT, "n1 lit call", "---xxx");
    // All that are closed may be left out at once, and none of the open ones then.
    main("n1 lit n0 n0 n0 n0 cases45", INT, true);
    main("t1 bit n0 n0 n0 cases42", INT, true);
    main("n1 lit t1 bit duo n0 n0 n0 cases56", INT, true);
    given(EXP_EXP_INT, "n1 lit call n0 n0 cases40", INT, true);
    given(EXP_EXP_INT, "n1 lit call n0 cases8", INT, false);
    given(EXP_EXP_INT, "n1 lit call n0 cases32", INT, false);
  }

  /** "the case's equations are those so far and ..": what an outer case told closes inner ones. */
  private static void impossibleByWhatWasTold() {
    String[] open = {"x-xx-x", "-x-x-x", "x-xx-x", "xxxxxx", "---xxx", "xxxxxx"};
    for (int outer = LIT; outer <= LEFT; outer++) {
      for (int maker = LIT; maker <= LEFT; maker++) {
        boolean isClosed = open[outer].charAt(maker) == '-';
        String without = casesBut("v0", "n0", maker, null);
        body(casesBut("v0", "n0", outer, without), INT, isClosed);
        // With six parts in the last of six, there would be 13 terms on the stack.
        if (outer < LEFT) {
          body(casesBut("v0", "n0", outer, casesBut("v0", "n0", maker, WRONG)), INT, isClosed);
          body(casesBut("v0", "n0", outer, casesBut("v0", "n0", maker, "t0")), INT, isClosed);
          body(casesBut("v0", "n0", outer, casesBut("v0", "n0", maker, "n0")), INT, true);
        }
      }
    }
  }

  /** Told of a part of a pair: in the DUO case of an EXP of NAMES 1 and 2, one of them is told. */
  private static void impossibleByWhatWasToldOfAPart() {
    toldOfAPart(LIT, "x-xx-x");
    toldOfAPart(BIT, "-x-x-x");
    toldOfAPart(SUM, "x-xx-x");
    toldOfAPart(DUO, "---xxx");
  }

  private static void toldOfAPart(int told, String open) {
    for (int changed = LIT; changed <= LEFT; changed++) {
      String[] parts = new String[6];
      for (int maker = LIT; maker <= LEFT; maker++) {
        parts[maker] = open.charAt(maker) == 'x' ? "n0" : null;
      }
      boolean isClosed = parts[changed] == null;
      inThePair(told, cases("v0", parts), true);
      // The other one was told nothing, so that all its cases are open.
      inThePair(told, cases("v1", parts), false);
      parts[changed] = isClosed ? WRONG : null;
      inThePair(told, cases("v0", parts), isClosed);
    }
  }

  private static void inThePair(int told, String part, boolean right) {
    String inner = casesBut("v0", "n0", told, part);
    String text = cases("n1 lit call", null, null, null, "n0", inner, "n0");
    given(EXP_N1_N2, text, INT, right);
  }

  /**
   * "or a type is equal to one that it is a part of": an equation is with INT, BOOL or a pair of
   * new names, so that none comes to that. Of the parts of what was told, all cases are open.
   */
  private static void noTypeIsAPartOfItself() {
    for (int missing = LIT; missing <= LEFT; missing++) {
      // NAME 0 is a pair of new names, and one of these a pair of others.
      for (int part = 1; part <= 2; part++) {
        String inner = casesBut("v" + part, "n0", missing, "n0");
        body(casesBut("v0", "n0", DUO, inner), INT, true);
        inner = casesBut("v" + part, "n0", missing, null);
        body(casesBut("v0", "n0", DUO, inner), INT, false);
      }
      // The pair of EXP INT and a new name is a pair of new names.
      boolean isOpen = missing == WHEN || missing == LEFT;
      String[] parts = {null, null, null, "n0", "n0", "n0"};
      parts[DUO] = casesBut("v1", "n0", missing, null);
      given(EXP_EXP_INT, "n1 lit call n0 " + cases("v0", parts) + " cases40", INT, !isOpen);
      parts[DUO] = casesBut("v2", "n0", missing, null);
      given(EXP_EXP_INT, "n1 lit call n0 " + cases("v0", parts) + " cases40", INT, false);
      parts[DUO] = casesBut("v2", "n0", missing, "n0");
      given(EXP_EXP_INT, "n1 lit call n0 " + cases("v0", parts) + " cases40", INT, true);
    }
  }

  /** "its part, if it is there, isn't looked at. Otherwise it has to be there, and is checked". */
  private static void aClosedPartIsNotLookedAt() {
    String[] parts = {
      WRONG, "t1", "v0 first", "n1 call", "n1 n2 n3 if", "n1 n2 cases1", "t1 n1 add", "v0 v1 sum"
    };
    for (String part : parts) {
      main(casesBut("n1 lit", "n0", BIT, part), INT, true);
      main(casesBut("n1 lit", "n0", DUO, part), INT, true);
      main(casesBut("n1 lit", "n0", LIT, part), INT, false);
      main(casesBut("n1 lit", "n0", LEFT, part), INT, false);
    }
    // A subject that is wrong is wrong, whatever its cases are.
    main(casesBut(WRONG, "n0", LIT, "n0"), INT, false);
    main(casesBut("n1", "n0", LIT, "n0"), INT, false);
  }

  /** Terms of each kind of type, with what the function's result has to be for it. */
  private static final String[] TERMS = {
    "n1", "t1", "n1 t1 both", "n1 lit", "t1 bit", "n1 lit t1 bit duo", "n1 lit call"
  };

  private static final int AN_INT = 0;
  private static final int A_BOOL = 1;
  private static final int A_PAIR = 2;
  private static final int AN_EXP_INT = 3;
  private static final int AN_EXP_BOOL = 4;
  private static final int AN_EXP_PAIR = 5;

  /** Whether the type of a term is found with each of the terms in a place of it. */
  private static void found(String text, int... right) {
    isInt(text + " n5 both second", right);
  }

  /** Whether a term is checked as INT with each of the terms in a place of it. */
  private static void isInt(String text, int... right) {
    for (int k = 0; k < TERMS.length; k++) {
      boolean isRight = false;
      for (int one : right) {
        isRight |= one == k;
      }
      given(N1, String.format(text, TERMS[k]), INT, isRight);
    }
  }

  /** "which has to have the form of a pair", "with the form of an exp of e", "checked as INT". */
  private static void whatHasTheForm() {
    found("%s n5 add", AN_INT);
    found("n5 %s add", AN_INT);
    found("%s n5 less", AN_INT);
    found("n5 %s less", AN_INT);
    found("%s n5 both", 0, 1, 2, 3, 4, 5, 6);
    found("n5 %s both", 0, 1, 2, 3, 4, 5, 6);
    found("%s first", A_PAIR);
    found("%s second", A_PAIR);
    found("%s call", AN_EXP_INT, AN_EXP_BOOL, AN_EXP_PAIR);
    found("%s as" + INT, AN_INT);
    found("%s as" + BOOL, A_BOOL);
    found("%s as" + INT_BOOL, A_PAIR);
    found("%s as" + EXP_INT, AN_EXP_INT);
    found("%s as" + EXP_BOOL, AN_EXP_BOOL);
    found("%s as" + EXP_INT_BOOL, AN_EXP_PAIR);
    found("%s as" + N1, 6);
    found("%s as" + N2);
    found("%s lit", AN_INT);
    found("%s bit", A_BOOL);
    found("%s n5 lit sum", AN_EXP_INT);
    found("n5 lit %s sum", AN_EXP_INT);
    found("%s n5 lit n5 lit when", AN_EXP_BOOL);
    found("t1 bit %1$s %1$s when", AN_EXP_INT, AN_EXP_BOOL, AN_EXP_PAIR);
    found("t1 bit %s n5 lit when", AN_EXP_INT);
    found("t1 bit n5 lit %s when", AN_EXP_INT);
    found("t1 bit t0 bit %s when", AN_EXP_BOOL);
    found("%s n5 lit duo", AN_EXP_INT, AN_EXP_BOOL, AN_EXP_PAIR);
    found("n5 lit %s duo", AN_EXP_INT, AN_EXP_BOOL, AN_EXP_PAIR);
    found("%s left", AN_EXP_PAIR);
    isInt("%s n1 n2 if", A_BOOL);
    isInt("t1 %s n2 if", AN_INT);
    isInt("t1 n2 %s if", AN_INT);
    isInt("%s n1 n2 n3 n4 n5 n6 cases63", AN_EXP_INT, AN_EXP_BOOL, AN_EXP_PAIR);
  }

  /** "if it is equal to one": a name that was told has the form of what it was told to be. */
  private static void whatHasTheFormByEquations() {
    for (int maker = 0; maker < 6; maker++) {
      String left = casesBut("v0", "n0", maker, "v0 left n5 both second");
      body(left, INT, maker == DUO);
      String first = casesBut("v0", "v0 call", maker, "v0 call first v0 call second both");
      body(first, N0, maker == DUO);
      String turned = casesBut("v0", "v0 call", maker, "v0 call second v0 call first both");
      body(turned, N0, false);
      // The pair of e and a new name, of which LEFT is made, is a pair without being told.
      String inLeft = casesBut("v0", "v0", maker, "v1 left");
      body(inLeft, EXP_N0, maker == LEFT);
    }
  }

  private static String termOf(int type) {
    switch (type) {
      case INT:
        return "n1";
      case BOOL:
        return "t1";
      case INT_BOOL:
        return "n1 t1 both";
      case EXP_INT:
        return "n1 lit";
      case EXP_BOOL:
        return "t1 bit";
      default:
        return "n1 lit t1 bit duo";
    }
  }

  /** An IF and a CASES that may be checked as this type. */
  private static String[] checkedAlone(int type) {
    String one = termOf(type);
    String chosen = "t1 " + one + " " + one + " if";
    return new String[] {chosen, "t1 bit " + one + " " + one + " " + one + " cases42"};
  }

  /** TO FIND: "IF and CASES: wrong", with AS round it right. */
  private static void ifAndCasesAreNotFound() {
    whereFound("%s t1 both", INT, INT_BOOL);
    whereFound("n1 %s both", BOOL, INT_BOOL);
    whereFound("%s first", INT_BOOL, INT);
    whereFound("%s second", INT_BOOL, BOOL);
    whereFound("%s call", EXP_INT, INT);
    whereFound("t1 bit %s n1 lit when", EXP_INT, EXP_INT);
    whereFound("%s t1 bit duo", EXP_INT, EXP_INT_BOOL);
    whereFound("n1 lit %s duo", EXP_BOOL, EXP_INT_BOOL);
    whereFound("%s left", EXP_INT_BOOL, EXP_INT);
    whereFound("%s n0 n0 n0 n0 n0 n0 cases63", EXP_INT, INT);
  }

  private static void whereFound(String place, int type, int whole) {
    main(String.format(place, termOf(type)), whole, true);
    for (String alone : checkedAlone(type)) {
      main(String.format(place, alone), whole, false);
      main(String.format(place, alone + " as" + type), whole, true);
    }
  }

  /** TO CHECK: where a part is checked, IF and CASES may stand. */
  private static void ifAndCasesAreChecked() {
    whereChecked("%s n1 add", INT, INT);
    whereChecked("n1 %s add", INT, INT);
    whereChecked("%s n1 less", INT, BOOL);
    whereChecked("n1 %s less", INT, BOOL);
    whereChecked("%s n1 n2 if", BOOL, INT);
    whereChecked("t1 %s n2 if", INT, INT);
    whereChecked("t1 n2 %s if", INT, INT);
    whereChecked("%s as" + INT, INT, INT);
    whereChecked("%s lit", INT, EXP_INT);
    whereChecked("%s bit", BOOL, EXP_BOOL);
    whereChecked("%s n1 lit sum", EXP_INT, EXP_INT);
    whereChecked("n1 lit %s sum", EXP_INT, EXP_INT);
    whereChecked("%s n1 lit n2 lit when", EXP_BOOL, EXP_INT);
    whereChecked("t1 bit n1 lit %s when", EXP_INT, EXP_INT);
    whereChecked("t1 bit %s n1 n1 cases42", INT, INT);
    whereChecked("t1 bit n1 n1 %s cases42", INT, INT);
    whereChecked("%s", INT_BOOL, INT_BOOL);
  }

  private static void whereChecked(String place, int type, int whole) {
    for (String alone : checkedAlone(type)) {
      main(String.format(place, alone), whole, true);
    }
    for (String wrong : checkedAlone(type == INT ? BOOL : INT)) {
      main(String.format(place, wrong), whole, false);
    }
  }

  /** "a VARIABLE that of the environment (wrong if it has none)". */
  private static void noSuchVariable() {
    for (int k = 0; k <= 11; k++) {
      body("v" + k + " n5 both second", INT, k == 0);
      main("v" + k + " n5 both second", INT, false);
    }
  }

  /** "the environment having more variables behind it": as many as the maker has parts. */
  private static void noSuchVariableInACase() {
    int[] more = {1, 1, 2, 3, 2, 1};
    for (int maker = 0; maker < 6; maker++) {
      for (int k = 0; k <= 11; k++) {
        String part = "v" + k + " n5 both second";
        body(casesBut("v0", "n0", maker, part), INT, k < 1 + more[maker]);
        given(EXP_N1, casesBut("n1 lit call", "n0", maker, part), INT, k < more[maker]);
      }
      // Behind the case they are gone: the next case has its own alone.
      int other = (maker + 1) % 6;
      String text = "v" + (1 + more[other]) + " n5 both second";
      body(casesBut("v0", "n0", other, text), INT, false);
    }
    // Behind the whole CASES they are gone too.
    String whole = casesBut("v0", "n0", LIT, "v1") + " as0";
    body(whole + " v0 both first", INT, true);
    body(whole + " v1 both first", INT, false);
  }

  /**
   * VARIABLE 11 is the last that can be written: the environment has it with 12, not with 11. Of
   * an EXP of an EXP only WHEN and LEFT are open, and each WHEN adds three variables.
   */
  private static void theTwelfthVariable() {
    String when = " v1 cases40 v1 cases40 v1 cases40 v0 left cases40";
    for (int k = 0; k <= 11; k++) {
      given(EXP_EXP_INT, "n1 lit call v1 v1 v1 v" + k + when, EXP_EXP_INT, k % 3 != 0);
    }
    // The body's own, three times three more, and LEFT's one: 11.
    String left = "v0 call v2 v2 v2 v2 %s cases40 v2 cases40 v2 cases40 v1 left cases40";
    body(String.format(left, "v9"), EXP_EXP_INT, true);
    body(String.format(left, "v10"), EXP_EXP_INT, false);
    body(String.format(left, "v10 left"), EXP_EXP_INT, true);
    body(String.format(left, "v11"), EXP_EXP_INT, false);
    body(String.format(left, "v11 left"), EXP_EXP_INT, false);
    // With a fourth WHEN there are 13, of which VARIABLE 11 is the second new one.
    String more = "v0 call v2 v2 v2 %s v2 cases40 v2 cases40 v2 cases40 v1 left cases40";
    body(String.format(more, "v11"), EXP_EXP_INT, true);
    body(String.format(more, "v10"), EXP_EXP_INT, false);
  }

  /** "LIT INT; BIT BOOL; SUM twice EXP INT; WHEN EXP BOOL and twice EXP e; ..". */
  private static void typesOfTheVariables() {
    int[][] types = {
      {INT}, {BOOL}, {EXP_INT, EXP_INT}, {EXP_BOOL, EXP_N0, EXP_N0}, {-1, -1}, {-1}
    };
    for (int maker = 0; maker < 6; maker++) {
      for (int k = 0; k < types[maker].length; k++) {
        for (int type = 0; type < TYPES; type++) {
          // In the LIT and SUM case EXP INT is EXP of NAME 0 as well.
          boolean isSame =
              type == types[maker][k]
                  || (maker == LIT && type == N0)
                  || (maker == BIT && type == N0)
                  || (maker == SUM && type == EXP_N0);
          String part = "v" + (1 + k) + " as" + type + " n5 both second";
          body(casesBut("v0", "n0", maker, part), INT, isSame);
        }
      }
    }
    // Of a known e: EXP INT's WHEN and LEFT.
    main(cases("n1 lit", "n0 lit", null, "v0", "v1", null, "v0 left"), EXP_INT, true);
    main(cases("n1 lit", "n0 lit", null, "v1", "v2", null, "v0 left"), EXP_INT, true);
    main(cases("n1 lit", "n0 lit", null, "v1", "v0", null, "v0 left"), EXP_INT, false);
    main(cases("n1 lit", "n0 lit", null, "v1", "v2", null, "v0"), EXP_INT, false);
    main(cases("n1 lit", "v0 lit", null, "v1", "v2", null, "v0 left"), EXP_INT, true);
    main(cases("n1 lit", "v0", null, "v1", "v2", null, "v0 left"), EXP_INT, false);
  }

  /** "(New names are like no others.)". */
  private static void newNamesAreLikeNoOthers() {
    for (int type = 0; type < TYPES; type++) {
      body(casesBut("v0", "n0", DUO, "v1 as" + type + " n5 both second"), INT, false);
      body(casesBut("v0", "n0", DUO, "v2 as" + type + " n5 both second"), INT, false);
      body(casesBut("v0", "n0", LEFT, "v1 as" + type + " n5 both second"), INT, false);
    }
    // The two of one DUO are unlike, and each is unlike those that a DUO in it has.
    String when = "t1 bit v1 v%d when n5 both second";
    body(casesBut("v0", "n0", DUO, String.format(when, 1)), INT, true);
    body(casesBut("v0", "n0", DUO, String.format(when, 2)), INT, false);
    for (int k = 0; k <= 3; k++) {
      String[] parts = {null, null, null, "v1 left", casesBut("v1", "v0", DUO, "v" + k),
        "v0 left left"};
      given(EXP_N1_N2, cases("n1 lit call", parts), EXP_N1, k == 0);
    }
    // Those of two DUOs of the same subject are equal, since the pairs of them are.
    String inner = "v0 v0 v%d v%d duo v0 cases56";
    body(casesBut("v0", "v0", DUO, String.format(inner, 1, 4)), EXP_N0, true);
    body(casesBut("v0", "v0", DUO, String.format(inner, 3, 2)), EXP_N0, true);
    body(casesBut("v0", "v0", DUO, String.format(inner, 1, 3)), EXP_N0, false);
    body(casesBut("v0", "v0", DUO, String.format(inner, 4, 2)), EXP_N0, false);
    // The names of two LEFTs are unlike, even of the same subject.
    String lefts = "n1 lit call v1 n1 lit call v2 t1 bit v0 v%d when left cases40 cases40";
    given(EXP_EXP_INT, String.format(lefts, 0), EXP_EXP_INT, true);
    given(EXP_EXP_INT, String.format(lefts, 1), EXP_EXP_INT, false);
  }

  /** "RESULT AT t is the result with t in place of NAME 0". */
  private static void resultAtAnotherType() {
    given(N0, "n1 lit call", INT, true);
    given(N0, "n1 lit call", N0, false);
    given(N0, "t1 bit call", BOOL, true);
    given(EXP_N0, "n1 lit call", EXP_INT, true);
    given(EXP_N0, "n1 lit call", EXP_N0, false);
    given(EXP_EXP_N0, "n1 lit call", EXP_EXP_INT, true);
    given(EXP_EXP_N0, "n1 lit call", EXP_EXP_N0, false);
    given(N0_EXP_EXP_N0, "n1 lit call first", INT, true);
    given(N0_EXP_EXP_N0, "n1 lit call second", EXP_EXP_INT, true);
    given(N0_EXP_EXP_N0, "n1 lit call", N0_EXP_EXP_N0, false);
    // NAMES 1 and 2 stay as they are, and so does what has no name.
    given(N1_N2, "n1 lit call", N1_N2, true);
    given(EXP_N1_INT, "t1 bit call", EXP_N1_INT, true);
    given(INT, "t1 bit call", INT, true);
    // In the body at NAME 0 itself, and at another type whatever NAME 0 was told to be.
    body("v0 call", N0_EXP_EXP_N0, true);
    body(casesBut("v0", "v0 call", LIT, "t1 bit call"), N0, false);
    body(casesBut("v0", "v0 call", BIT, "t1 bit call"), N0, true);
    body(casesBut("v0", "v0 call", LIT, "n1 lit call"), N0, true);
  }

  /** The limit of 24 is of the types that are made: what is found or told takes none of them. */
  private static void asManyTypesAsItTakes() {
    RigidCases x = withTypes();
    due.is("type 21", x.type(0, N0, N0), 21);
    due.is("type 22", x.type(0, N1, N1), 22);
    due.is("type 23", x.type(0, N2, N2), 23);
    due.is("no type 24", x.type(1, 23, 0), -2);
    String[] parts = {
      "n0", "n0", "n0", "v1 v2 duo v3 duo n5 both second",
      "v1 v2 duo v1 duo n5 both second", "v1 v0 duo v1 duo n5 both second"
    };
    Text.function(x, cases("v0", parts), INT);
    Text.main(x, "n1 t1 both n2 both t1 both n5 both second", INT);
    for (int k = 0; k < 50; k++) {
      due.is("check among 24 types", x.check(), 0);
    }
    due.is("still no type 24", x.type(1, 23, 0), -2);
    due.is("no type 24 to find", x.type(1, 24, 0), -1);
  }

  /** The height of 4 is of the types that are made: what is found may be higher. */
  private static void asHighAsItTakes() {
    main("n1 t1 both n2 both n3 both first first", INT_BOOL, true);
    main("n1 t1 both n2 both n3 both first first", INT_INT, false);
    main("n1 n2 both n3 both n4 both n5 both second", INT, true);
    // Of EXP N0 each call gives what it is called with; of EXP EXP N0, an EXP more.
    given(EXP_N0, "n1 lit call call call", EXP_INT, true);
    given(EXP_EXP_N0, "n1 lit call call call", EXP_EXP_INT, false);
    given(EXP_EXP_N0, "n1 lit call call call n0 n0 cases40", INT, true);
    // The two that are compared here are 5 high.
    String high = "v0 v0 duo v0 duo v0 duo";
    fiveHigh(high, high, 0);
    fiveHigh(high, "v0 v0 duo v0 duo", 1);
    fiveHigh(high, "v0 v0 duo v0 v0 duo duo v0 duo", 1);
    fiveHigh(high, "v0 v0 duo v0 duo n1 lit duo", 1);
  }

  private static void fiveHigh(String second, String third, int answer) {
    RigidCases x = withTypes();
    int three = x.type(0, x.type(0, N0, N0), N0);
    Text.function(x, "t1 bit " + second + " " + third + " when left", x.type(1, three, 0));
    due.is("compare " + second + " with " + third, x.check(), answer);
  }
}
