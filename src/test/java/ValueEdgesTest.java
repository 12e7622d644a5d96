/** Promises 11 and 12 at their edges: a method for each sentence that names one. */
public final class ValueEdgesTest {
  private static final Due due = new Due("ValueEdgesTest");

  private static final int LEAST = Integer.MIN_VALUE;
  private static final int MOST = Integer.MAX_VALUE;

  /** Four of what it is given, in three DUOs: of n places it makes 4 n + 3. */
  private static final String FOURFOLD = "v0 v0 duo v0 v0 duo duo";

  /** 191 places: LIT 7 has 2, then 11, 47 and 191. */
  private static final String MANY = "n7 lit call call call";

  public static void main(String[] args) {
    beforeAnyEvaluating();
    afterStuckAndSpent();
    placesBelowZero();
    behindTheLastPart();
    theTwoHundredthPlace();
    farMoreThanTwoHundred();
    eachShapeHasItsCode();
    aWholeBeforeItsParts();
    numbersAtTheirPlacesAlone();
    theLatestEvaluatingAlone();
    askingChangesNothing();
    asManyCallsAsAreAnswered();
    due.end();
  }

  private static RigidCases valued(String body, String main) {
    RigidCases x = new RigidCases();
    Text.function(x, body, 0);
    Text.main(x, main, 0);
    due.is("evaluate " + main, x.evaluate(), 0);
    return x;
  }

  /** There is nothing at any place. */
  private static void none(String what, RigidCases x) {
    int[] places = {LEAST, -200, -1, 0, 1, 2, 100, 198, 199, 200, 201, 600, MOST};
    for (int k : places) {
      due.is(what + ": value(" + k + ")", x.value(k), -1);
      due.is(what + ": number(" + k + ")", x.number(k), 0);
    }
  }

  private static void at(RigidCases x, int k, int code, int number) {
    due.is("value(" + k + ")", x.value(k), code);
    due.is("number(" + k + ")", x.number(k), number);
  }

  /** A whole row, and nothing before and behind it. */
  private static void row(RigidCases x, int[] codes, int... numbers) {
    int next = 0;
    for (int k = 0; k < codes.length; k++) {
      at(x, k, codes[k], codes[k] == 1000 ? numbers[next++] : 0);
    }
    at(x, -1, -1, 0);
    at(x, codes.length, -1, 0);
    at(x, 199, -1, 0);
    at(x, 200, -1, 0);
  }

  /** "Of the value of the latest evaluating": there is none before the first. */
  private static void beforeAnyEvaluating() {
    RigidCases x = new RigidCases();
    none("new", x);
    Text.main(x, "n7 n8 both", 0);
    x.check();
    none("before the first evaluating", x);
    x.evaluate();
    row(x, new int[] {1003, 1000, 1000}, 7, 8);
  }

  /** "(if it was not SPENT or STUCK)": then there is none, whatever was before. */
  private static void afterStuckAndSpent() {
    String[] mains = {"v0", "n1 n2 both v0 both", "n1 n2 both first first", "n1 call"};
    int[] outcomes = {2, 2, 2, 1};
    for (int k = 0; k < mains.length; k++) {
      RigidCases x = new RigidCases();
      Text.function(x, "v0 call", 0);
      Text.main(x, mains[k], 0);
      due.is("evaluate " + mains[k], x.evaluate(), outcomes[k]);
      none(mains[k], x);
      Text.main(x, "n5 n6 both", 0);
      x.evaluate();
      row(x, new int[] {1003, 1000, 1000}, 5, 6);
      Text.main(x, mains[k], 0);
      due.is("evaluate again " + mains[k], x.evaluate(), outcomes[k]);
      none("after a value, " + mains[k], x);
    }
    // Also when there was a row of 200.
    RigidCases y = valued(FOURFOLD, MANY + " call");
    at(y, 199, 1011, 0);
    Text.main(y, MANY + " v0 both", 0);
    due.is("stuck behind many", y.evaluate(), 2);
    none("stuck behind many", y);
  }

  /** "k (0 .. 199)": none below 0. */
  private static void placesBelowZero() {
    RigidCases x = valued("v0", "n5");
    for (int k : new int[] {LEAST, LEAST + 1, -1000, -200, -2, -1}) {
      at(x, k, -1, 0);
    }
    at(x, 0, 1000, 5);
  }

  /** "BAD when there is none at k"; "0 when there is none": on both sides of a row's end. */
  private static void behindTheLastPart() {
    String text = "n1";
    for (int boths = 0; boths <= 5; boths++) {
      RigidCases x = valued("v0", text);
      int places = 1 + 2 * boths;
      at(x, places - 1, 1000, boths == 0 ? 1 : 2);
      at(x, places, -1, 0);
      at(x, places + 1, -1, 0);
      at(x, 199, -1, 0);
      text += " n2 both";
    }
  }

  /** "k (0 .. 199)": rows of 199, 200 and 201 places, and what stands at their ends. */
  private static void theTwoHundredthPlace() {
    RigidCases x = valued(FOURFOLD, MANY + " n1 n2 both n3 n4 both both both");
    at(x, 191, 1000, 7);
    at(x, 192, 1003, 0);
    at(x, 197, 1000, 3);
    at(x, 198, 1000, 4);
    at(x, 199, -1, 0);
    at(x, 200, -1, 0);
    RigidCases y = valued(FOURFOLD, MANY + " n1 lit n2 n3 n4 both both both both");
    at(y, 198, 1000, 3);
    at(y, 199, 1000, 4);
    at(y, 200, -1, 0);
    at(y, 201, -1, 0);
    RigidCases z = valued(FOURFOLD, MANY + " n1 n2 both n3 n4 n5 both both both both");
    at(z, 198, 1003, 0);
    at(z, 199, 1000, 4);
    at(z, 200, -1, 0);
    at(z, 201, -1, 0);
    // What the 200th place holds is a whole, whose parts would be behind it.
    RigidCases w = valued(FOURFOLD, MANY + " n1 lit n2 lit duo n3 lit n4 lit both both both");
    at(w, 198, 1003, 0);
    at(w, 199, 1011, 0);
    at(w, 200, -1, 0);
    at(w, 201, -1, 0);
  }

  /** A row that would go on: all 200 are there, as they would be in a shorter one. */
  private static void farMoreThanTwoHundred() {
    RigidCases x = valued(FOURFOLD, MANY + " call");
    RigidCases y = valued(FOURFOLD, MANY);
    at(x, 0, 1015, 0);
    at(x, 1, 1015, 0);
    for (int k = 0; k < 191; k++) {
      at(x, 2 + k, y.value(k), y.number(k));
    }
    for (int k = 0; k < 7; k++) {
      at(x, 193 + k, y.value(k), y.number(k));
    }
    for (int k : new int[] {200, 201, 767, MOST}) {
      at(x, k, -1, 0);
    }
    at(y, 190, 1000, 7);
    at(y, 191, -1, 0);
    // Of threefold wholes more parts wait for their place: 7, 22, 67 and 202 places.
    RigidCases z = valued("v0 v0 v0 when", "n7 lit call call call call");
    int[] first = {1014, 1014, 1014, 1014, 1011, 1000, 1011, 1000, 1011, 1000, 1014};
    for (int k = 0; k < first.length; k++) {
      at(z, k, first[k], first[k] == 1000 ? 7 : 0);
    }
    at(z, 198, 1011, 0);
    at(z, 199, 1000, 7);
    at(z, 200, -1, 0);
  }

  /** "1000 + n for a maker n (11 .. 16), 1003 .. a pair, 1001 .. true, 1002 .. not, 1000 ..". */
  private static void eachShapeHasItsCode() {
    row(valued("v0", "n0"), new int[] {1000}, 0);
    row(valued("v0", "t1"), new int[] {1001});
    row(valued("v0", "t0"), new int[] {1002});
    row(valued("v0", "n3 t0 both"), new int[] {1003, 1000, 1002}, 3);
    row(valued("v0", "n4 lit"), new int[] {1011, 1000}, 4);
    row(valued("v0", "t0 bit"), new int[] {1012, 1002});
    row(valued("v0", "n4 lit t1 bit sum"), new int[] {1013, 1011, 1000, 1012, 1001}, 4);
    row(
        valued("v0", "t0 bit n4 lit n5 lit when"),
        new int[] {1014, 1012, 1002, 1011, 1000, 1011, 1000},
        4,
        5);
    row(valued("v0", "n4 lit t1 bit duo"), new int[] {1015, 1011, 1000, 1012, 1001}, 4);
    row(valued("v0", "n4 lit left"), new int[] {1016, 1011, 1000}, 4);
  }

  /** "a whole before its parts, these in order". */
  private static void aWholeBeforeItsParts() {
    row(
        valued("v0", "n1 n2 both n3 both n4 n5 n6 both both both"),
        new int[] {1003, 1003, 1003, 1000, 1000, 1000, 1003, 1000, 1003, 1000, 1000},
        1,
        2,
        3,
        4,
        5,
        6);
    // A value that stands in two places is written in both.
    row(
        valued("v0 v0 both", "n9 lit call"), new int[] {1003, 1011, 1000, 1011, 1000}, 9, 9);
  }

  /** "The number that stands at k in that row; 0 when there is none": at another shape too. */
  private static void numbersAtTheirPlacesAlone() {
    int[] numbers = {LEAST, LEAST + 1, -1, 0, 1, 1000, MOST - 1, MOST};
    for (int number : numbers) {
      row(valued("v0", "n" + number), new int[] {1000}, number);
      row(valued("v0", "n" + number + " lit"), new int[] {1011, 1000}, number);
      row(valued("v0", "t1 n" + number + " both"), new int[] {1003, 1001, 1000}, number);
    }
  }

  /** The row is of the latest evaluating alone, and stays until the next. */
  private static void theLatestEvaluatingAlone() {
    RigidCases x = valued("v0", "n1 n2 both n3 both");
    row(x, new int[] {1003, 1003, 1000, 1000, 1000}, 1, 2, 3);
    Text.main(x, "n4 lit", 0);
    Text.function(x, "n5", 0);
    Text.make(x, "n6 n7");
    x.drop();
    x.type(1, 0, 0);
    x.check();
    row(x, new int[] {1003, 1003, 1000, 1000, 1000}, 1, 2, 3);
    x.evaluate();
    row(x, new int[] {1011, 1000}, 4);
    Text.main(x, "n8", 0);
    x.evaluate();
    row(x, new int[] {1000}, 8);
  }

  /** Asking, in whatever order and outside of the row too, changes nothing. */
  private static void askingChangesNothing() {
    RigidCases[] twins = {valued("v0", "n1 t1 both"), valued("v0", "n1 t1 both")};
    for (int k = 205; k >= -5; k--) {
      twins[0].number(k);
      twins[0].value(k);
    }
    Alike.are(due, "asked for places", twins[0], twins[1]);
  }

  /** "at most 512 calls": the last of them is answered like the first. */
  private static void asManyCallsAsAreAnswered() {
    RigidCases x = valued(FOURFOLD, MANY + " call");
    // The body takes 8 calls, the main term 7, and evaluating 1.
    int calls = 16;
    while (calls < 511) {
      due.is("evaluate, call " + calls, x.evaluate(), 0);
      calls++;
    }
    due.is("call 512", x.value(199), 1011);
  }
}
