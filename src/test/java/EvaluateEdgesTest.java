/** Promises 9 and 10 at their edges: a method for each sentence of EVALUATING that names one. */
public final class EvaluateEdgesTest {
  private static final Due due = new Due("EvaluateEdgesTest");

  private static final int VALUE = 0;
  private static final int SPENT = 1;
  private static final int STUCK = 2;

  private static final String LEAST = "n-2147483648";
  private static final String MOST = "n2147483647";

  /** Terms that come to each kind of value: a number, two truths, a pair, and the makers. */
  private static final String[] KINDS = {
    "n5", "t1", "t0", "n1 n2 both", "n5 lit", "t1 bit", "n1 lit n2 lit sum",
    "t1 bit n1 lit n2 lit when", "n1 lit t1 bit duo", "n5 lit left"
  };

  private static final int[] STEPS = {1, 1, 1, 3, 2, 2, 5, 7, 5, 3};
  private static final int[] MORE = {1, 1, 2, 3, 2, 1};

  private static final String ANY = "nttpmmmmmm";
  private static final String NUMBER = "n---------";
  private static final String TRUTH = "-tt-------";
  private static final String PAIR = "---p------";
  private static final String MADE = "----mmmmmm";

  /** As many calls as fit: 9 for each LEFT, in WHENs of WHENs. */
  private static final String MANY_CALLS =
      "v0 v0 as0 v1 call as0 v1 call as0 v1 call as0 when v1 call v1 call v1 call when "
          + "v1 call v1 call v1 call when when cases33";

  /** Calls itself with one more until it is called with 4. */
  private static final String COUNT = "v0 n4 less v0 n1 add call v0 if";

  public static void main(String[] args) {
    intsThatWrap();
    lessAtTheEnds();
    whatKindIsWanted();
    eachIsLookedAtAtOnce();
    ifTakesOneOfTwo();
    noPartForTheMaker();
    noSuchVariable();
    noSuchVariableInABody();
    noSuchVariableInACase();
    theTwelfthVariable();
    sixHundredSteps();
    sixHundredStepsBeforeABody();
    fourBodies();
    behindTheCallsPart();
    bodiesThatAreOver();
    stepsBefore();
    stepsOfTheLatest();
    onlyTheMainTermIsEvaluated();
    evaluatingChangesNothingElse();
    due.end();
  }

  private static RigidCases run(String body, String main, int outcome, int steps) {
    RigidCases x = new RigidCases();
    Text.function(x, body, 0);
    Text.main(x, main, 0);
    due.is("evaluate " + main + " with " + body, x.evaluate(), outcome);
    due.is("steps of " + main + " with " + body, x.steps(), steps);
    if (outcome != VALUE) {
      due.is("no value of " + main, x.value(0), -1);
      due.is("no number of " + main, x.number(0), 0);
    }
    return x;
  }

  private static void comesTo(String main, int shape, int number) {
    RigidCases x = new RigidCases();
    Text.main(x, main, 0);
    due.is("evaluate " + main, x.evaluate(), VALUE);
    due.is("value of " + main, x.value(0), shape);
    due.is("number of " + main, x.number(0), number);
  }

  /** "numbers (ints that wrap)". */
  private static void intsThatWrap() {
    comesTo(MOST + " n0 add", 1000, Integer.MAX_VALUE);
    comesTo(MOST + " n1 add", 1000, Integer.MIN_VALUE);
    comesTo("n1 " + MOST + " add", 1000, Integer.MIN_VALUE);
    comesTo(MOST + " " + MOST + " add", 1000, -2);
    comesTo(LEAST + " n0 add", 1000, Integer.MIN_VALUE);
    comesTo(LEAST + " n-1 add", 1000, Integer.MAX_VALUE);
    comesTo("n-1 " + LEAST + " add", 1000, Integer.MAX_VALUE);
    comesTo(LEAST + " " + LEAST + " add", 1000, 0);
    comesTo(LEAST + " " + MOST + " add", 1000, -1);
    comesTo(MOST + " n1 add n-1 add", 1000, Integer.MAX_VALUE);
  }

  /** LESS is of the ints as they are: their difference would wrap. */
  private static void lessAtTheEnds() {
    String[] ascending = {LEAST, "n-2", "n-1", "n0", "n1", "n2", MOST};
    for (int k = 0; k < ascending.length; k++) {
      for (int other = 0; other < ascending.length; other++) {
        comesTo(ascending[k] + " " + ascending[other] + " less", k < other ? 1001 : 1002, 0);
      }
    }
    comesTo(MOST + " n1 add n0 less", 1001, 0);
  }

  /** A term with each kind of value in a place of it: STUCK where another kind is wanted. */
  private static void wants(String text, String kinds) {
    for (int k = 0; k < KINDS.length; k++) {
      RigidCases x = new RigidCases();
      Text.function(x, "v0", 0);
      String main = String.format(text, KINDS[k]);
      Text.main(x, main, 0);
      due.is("evaluate " + main, x.evaluate(), kinds.charAt(k) == '-' ? STUCK : VALUE);
    }
  }

  /** "STUCK when a part is no value of the kind that is wanted": each part of each operation. */
  private static void whatKindIsWanted() {
    wants("%s", ANY);
    wants("%s n5 add", NUMBER);
    wants("n5 %s add", NUMBER);
    wants("%s n5 less", NUMBER);
    wants("n5 %s less", NUMBER);
    wants("%s n1 n2 if", TRUTH);
    wants("t1 %s n2 if", ANY);
    wants("t0 n1 %s if", ANY);
    wants("%s n2 both", ANY);
    wants("n1 %s both", ANY);
    wants("%s first", PAIR);
    wants("%s second", PAIR);
    wants("%s call", ANY);
    wants("%s as0", ANY);
    wants("%s lit", NUMBER);
    wants("%s bit", TRUTH);
    wants("%s n1 lit sum", MADE);
    wants("n1 lit %s sum", MADE);
    wants("%s n1 lit n2 lit when", MADE);
    wants("t1 bit %s n2 lit when", MADE);
    wants("t1 bit n1 lit %s when", MADE);
    wants("%s n1 lit duo", MADE);
    wants("n1 lit %s duo", MADE);
    wants("%s left", MADE);
    wants("%s n1 n2 n3 n4 n5 n6 cases63", MADE);
    wants("n1 lit %s cases1", ANY);
  }

  /** "(Each is looked at as soon as it was evaluated.)": what stands behind it is not begun. */
  private static void eachIsLookedAtAtOnce() {
    for (int k = 0; k < KINDS.length; k++) {
      boolean isNumber = NUMBER.charAt(k) != '-';
      boolean isTruth = TRUTH.charAt(k) != '-';
      boolean isMade = MADE.charAt(k) != '-';
      stuckAfter(k, "%s v9 add", 1, isNumber);
      stuckAfter(k, "%s v9 less", 1, isNumber);
      stuckAfter(k, "%s v9 v9 if", 1, isTruth);
      stuckAfter(k, "%s v9 sum", 1, isMade);
      stuckAfter(k, "%s v9 v9 when", 1, isMade);
      stuckAfter(k, "n1 lit %s v9 when", 3, isMade);
      stuckAfter(k, "%s v9 duo", 1, isMade);
      stuckAfter(k, "%s v9 v9 v9 v9 v9 v9 cases63", 1, isMade);
      // BOTH wants nothing, so that its second part is begun in any case.
      stuckAfter(k, "%s v9 both", 1, true);
    }
    // What would be SPENT isn't begun either.
    run("v0 call", "t1 n1 call add", STUCK, 2);
    run("v0 call", "n1 n1 call add", SPENT, 12);
    run("v0 call", "n1 n1 call sum", STUCK, 2);
    run("v0 call", "n1 call t1 add", SPENT, 11);
  }

  /** STUCK at the part, or at VARIABLE 9, which is one step more. */
  private static void stuckAfter(int k, String text, int before, boolean wanted) {
    run("v0", String.format(text, KINDS[k]), STUCK, before + STEPS[k] + (wanted ? 1 : 0));
  }

  /** "of IF the first one and then the one that it says": the other is not begun. */
  private static void ifTakesOneOfTwo() {
    run("v0", "t1 n1 v9 if", VALUE, 3);
    run("v0", "t0 v9 n1 if", VALUE, 3);
    run("v0", "t1 v9 n1 if", STUCK, 3);
    run("v0", "t0 n1 v9 if", STUCK, 3);
    run("v0 call", "t1 n1 n1 call if", VALUE, 3);
    run("v0 call", "t0 n1 call n1 if", VALUE, 3);
  }

  private static String numbers(int count) {
    StringBuilder text = new StringBuilder();
    for (int k = 1; k <= count; k++) {
      text.append(" n").append(k);
    }
    return text.toString();
  }

  /** "STUCK when .. there is no part for the maker": each maker with each set. */
  private static void noPartForTheMaker() {
    for (int maker = 0; maker < 6; maker++) {
      String subject = KINDS[4 + maker];
      int steps = 1 + STEPS[4 + maker];
      for (int set = 1; set <= 63; set++) {
        String main = subject + numbers(Integer.bitCount(set)) + " cases" + set;
        boolean there = (set >> maker & 1) == 1;
        RigidCases x = run("v0", main, there ? VALUE : STUCK, there ? steps + 1 : steps);
        int before = Integer.bitCount(set & ((1 << maker) - 1));
        due.is("the part for maker " + maker + " of " + main, x.number(0), there ? 1 + before : 0);
      }
    }
  }

  /** "STUCK when .. no such variable": the main term has none. */
  private static void noSuchVariable() {
    for (int k = 0; k <= 11; k++) {
      run("v0", "v" + k, STUCK, 1);
    }
  }

  /** "the body with VARIABLE 0 being that alone": the caller's are not seen, and come back. */
  private static void noSuchVariableInABody() {
    for (int k = 0; k <= 11; k++) {
      run("v" + k, "n5 call", k == 0 ? VALUE : STUCK, 3);
      run("v" + k, "n1 lit n2 lit sum v1 call cases4", k == 0 ? VALUE : STUCK, 9);
      String after = "n1 lit n2 lit sum v1 call v" + k + " both cases4";
      run("v0", after, k < 2 ? VALUE : STUCK, 11);
    }
    // Behind the call its variable is gone.
    run("v0", "n5 call v0 both", STUCK, 5);
  }

  /** "the values that it was made of being more variables behind those there". */
  private static void noSuchVariableInACase() {
    for (int maker = 0; maker < 6; maker++) {
      String subject = KINDS[4 + maker];
      int steps = 2 + STEPS[4 + maker];
      int set = 1 << maker;
      for (int k = 0; k <= 11; k++) {
        boolean there = k < MORE[maker];
        run("v0", subject + " v" + k + " cases" + set, there ? VALUE : STUCK, steps);
        String body = "v0 v" + k + " cases" + set;
        run(body, subject + " call", k < 1 + MORE[maker] ? VALUE : STUCK, steps + 2);
      }
      // Behind the case they are gone.
      run("v0", subject + " n1 cases" + set + " v0 both", STUCK, steps + 2);
    }
    RigidCases x = run("v0", "n7 lit n8 lit sum v1 v0 both cases4", VALUE, 9);
    due.is("the second one", x.number(2), 8);
    due.is("the first one", x.number(4), 7);
  }

  /** VARIABLE 11 is there with 12 variables, not with 11. */
  private static void theTwelfthVariable() {
    // The body's own, three times three of WHEN, and then two of DUO or one of LEFT.
    String duo = "t1 bit n1 lit n7 lit duo n3 lit when call";
    RigidCases x = run("v0 v0 v0 v2 v11 cases16 cases8 cases8 cases8", duo, VALUE, 20);
    due.is("the twelfth is the second of DUO", x.value(0), 1011);
    due.is("with its number", x.number(1), 7);
    String left = "t1 bit n1 lit left n3 lit when call";
    run("v0 v0 v0 v2 v11 cases32 cases8 cases8 cases8", left, STUCK, 18);
    run("v0 v0 v0 v2 v10 cases32 cases8 cases8 cases8", left, VALUE, 18);
    // With 13, the twelfth is the second of the last WHEN.
    String when = "t1 bit n7 lit n8 lit when call";
    RigidCases y = run("v0 v0 v0 v0 v11 cases8 cases8 cases8 cases8", when, VALUE, 17);
    due.is("the second of WHEN", y.number(1), 7);
    // In the main term four times three make 12; with SUM's two in place of three, 11.
    String nest = "t1 bit n1 lit n2 lit sum t1 bit n8 lit n9 lit when when v2 v2 ";
    RigidCases z = run("v0", nest + "v2 v11 cases8 cases8 cases8 cases8", VALUE, 23);
    due.is("the third of the last WHEN", z.number(1), 9);
    run("v0", nest + "v1 v11 cases4 cases8 cases8 cases8", STUCK, 23);
    run("v0", nest + "v1 v10 cases4 cases8 cases8 cases8", VALUE, 23);
  }

  /** "SPENT instead of a 601st step". */
  private static void sixHundredSteps() {
    run(MANY_CALLS, "n0 lit left left call", VALUE, 599);
    RigidCases x = run(MANY_CALLS, "n0 lit left left call as0", VALUE, 600);
    due.is("the value after 600 steps", x.value(0), 1014);
    run(MANY_CALLS, "n0 lit left left call n5 both", SPENT, 600);
    run(MANY_CALLS, "n5 n0 lit left left call both", SPENT, 600);
    run(MANY_CALLS, "n0 lit left left left call", SPENT, 600);
    // In the 600th step it may be STUCK; what would be STUCK in the 601st is SPENT.
    run(MANY_CALLS, "n0 lit left left call first", STUCK, 600);
    run(MANY_CALLS, "n0 lit left left call v0 both", SPENT, 600);
    // 600 are for each evaluating anew.
    for (int k = 0; k < 20; k++) {
      due.is("600 steps again", x.evaluate(), VALUE);
      due.is("they are 600", x.steps(), 600);
    }
    Text.main(x, "n0 lit left left call n5 both", 0);
    due.is("SPENT after them", x.evaluate(), SPENT);
    Text.main(x, "n0 lit left left call as0", 0);
    due.is("600 steps after SPENT", x.evaluate(), VALUE);
    due.is("600 of them", x.steps(), 600);
  }

  /** The body's own step is the 601st: SPENT, though few bodies are being evaluated. */
  private static void sixHundredStepsBeforeABody() {
    run(MANY_CALLS, "n0 lit left left call call", SPENT, 600);
    // Of a smaller part, the body is begun: WHEN has no part there.
    run(MANY_CALLS, "n0 lit left call", VALUE, 67);
    run(MANY_CALLS, "n0 lit left call call", STUCK, 70);
  }

  /** "or of the evaluating of a body when 4 bodies are being evaluated already". */
  private static void fourBodies() {
    // A body that calls again makes 8 steps, the last one 5, and the main term 2.
    run(COUNT, "n4 call", VALUE, 7);
    run(COUNT, "n3 call", VALUE, 15);
    run(COUNT, "n2 call", VALUE, 23);
    RigidCases x = run(COUNT, "n1 call", VALUE, 31);
    due.is("four bodies come to 4", x.number(0), 4);
    run(COUNT, "n0 call", SPENT, 34);
    run(COUNT, "n-100 call", SPENT, 34);
    run("v0 call", "n0 call", SPENT, 10);
    // After that the next evaluating has four again.
    Text.main(x, "n0 call", 0);
    due.is("a fifth body", x.evaluate(), SPENT);
    due.is("and again", x.evaluate(), SPENT);
    Text.main(x, "n1 call", 0);
    due.is("four again", x.evaluate(), VALUE);
    Text.main(x, "n1 call v0 add", 0);
    due.is("stuck behind four", x.evaluate(), STUCK);
    Text.main(x, "n1 call", 0);
    due.is("four after that", x.evaluate(), VALUE);
    due.is("their steps", x.steps(), 31);
  }

  /** "(behind the call's part)": that is evaluated first, and may be STUCK or make steps. */
  private static void behindTheCallsPart() {
    String part = "v0 n4 less v0 n1 add call %s call if";
    run(String.format(part, "v0"), "n1 call", SPENT, 32);
    run(String.format(part, "v0 v0 add"), "n1 call", SPENT, 34);
    run(String.format(part, "v9"), "n1 call", STUCK, 32);
    run(String.format(part, "v0 first"), "n1 call", STUCK, 33);
    // STUCK within four bodies, as the fifth is not begun.
    run("v0 n4 less v0 n1 add call v9 if", "n1 call", STUCK, 31);
  }

  /** Only bodies that are being evaluated count: not those that are over. */
  private static void bodiesThatAreOver() {
    run("v0", "n0 call call call call call", VALUE, 11);
    String six = "n0 call n0 call both n0 call n0 call both both n0 call n0 call both both";
    run("v0", six, VALUE, 23);
    // Four deep, twice one after the other, and once more in the part of a call.
    run(COUNT, "n1 call n1 call add", VALUE, 63);
    run(COUNT, "n1 call call", VALUE, 31 + 1 + 5);
    run(COUNT, "n1 call n-3 add call", VALUE, 31 + 3 + 29);
    run(COUNT, "n1 call n-4 add call", SPENT, 31 + 3 + 32);
  }

  /** Promise 10: "0 before". */
  private static void stepsBefore() {
    RigidCases x = new RigidCases();
    due.is("steps of a new object", x.steps(), 0);
    Text.function(x, "n1", 0);
    Text.main(x, "n1 n2 add", 0);
    x.check();
    due.is("steps before the first evaluating", x.steps(), 0);
    x.evaluate();
    due.is("steps after it", x.steps(), 3);
  }

  /** Promise 10: "How many steps the latest evaluating made", whatever came of it. */
  private static void stepsOfTheLatest() {
    RigidCases x = new RigidCases();
    Text.function(x, MANY_CALLS, 0);
    String[] mains = {"n1", "n0 lit left left left call", "v0", "n1 n2 add", "n1 first"};
    int[] outcomes = {VALUE, SPENT, STUCK, VALUE, STUCK};
    int[] steps = {1, 600, 1, 3, 2};
    for (int k = 0; k < mains.length; k++) {
      Text.main(x, mains[k], 0);
      due.is("steps until " + mains[k], x.steps(), k == 0 ? 0 : steps[k - 1]);
      due.is("evaluate " + mains[k], x.evaluate(), outcomes[k]);
      due.is("steps of " + mains[k], x.steps(), steps[k]);
      x.check();
      x.make(0, 0);
      x.drop();
      due.is("steps still of " + mains[k], x.steps(), steps[k]);
    }
  }

  /** Promise 9: "Evaluates the main term": the body and the stack are nothing to it. */
  private static void onlyTheMainTermIsEvaluated() {
    RigidCases x = new RigidCases();
    Text.function(x, "v11 first", 0);
    Text.make(x, "v11 v11 add");
    due.is("a new main term", x.evaluate(), VALUE);
    due.is("its one step", x.steps(), 1);
    due.is("its number", x.number(0), 0);
    // Types are nothing to it either.
    Text.main(x, "t1 as0", 0);
    due.is("wrong by its types", x.check(), 1);
    due.is("and of a value", x.evaluate(), VALUE);
    due.is("which is true", x.value(0), 1001);
  }

  /** Evaluating leaves the program, the stack and the types as they were. */
  private static void evaluatingChangesNothingElse() {
    String[] mains = {"n1 n2 both", "v0", "n0 lit left left left call"};
    for (String text : mains) {
      RigidCases[] twins = {new RigidCases(), new RigidCases()};
      for (RigidCases x : twins) {
        x.type(1, 0, 0);
        Text.function(x, MANY_CALLS, 2);
        Text.main(x, text, 2);
        Text.make(x, "n1 n2 both t1");
      }
      for (int k = 0; k < 5; k++) {
        twins[0].evaluate();
      }
      twins[1].evaluate();
      Alike.are(due, "evaluated " + text, twins[0], twins[1]);
    }
  }
}
