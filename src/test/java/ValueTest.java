/** Promises 11 and 12. */
public final class ValueTest {
  private static final Due due = new Due("ValueTest");

  /** Four of what it is given, in three DUOs. */
  private static final String FOURFOLD = "v0 v0 duo v0 v0 duo duo";

  public static void main(String[] args) {
    before();
    everyKind();
    wholesBeforeParts();
    numbersStandAtNumbersAlone();
    placesOutside();
    exactlyTwoHundred();
    moreThanTwoHundred();
    due.end();
  }

  private static void row(RigidCases x, int[] codes, int[] numbers) {
    for (int k = 0; k < codes.length; k++) {
      due.is("value(" + k + ")", x.value(k), codes[k]);
      due.is("number(" + k + ")", x.number(k), numbers[k]);
    }
    due.is("value behind the row", x.value(codes.length), -1);
    due.is("number behind the row", x.number(codes.length), 0);
  }

  private static void before() {
    RigidCases x = new RigidCases();
    due.is("value before", x.value(0), -1);
    due.is("number before", x.number(0), 0);
    Text.main(x, "n7", 0);
    due.is("value before an evaluating", x.value(0), -1);
    due.is("number before an evaluating", x.number(0), 0);
  }

  private static RigidCases valued(String body, String main) {
    RigidCases x = new RigidCases();
    Text.function(x, body, 0);
    Text.main(x, main, 0);
    due.is("evaluate " + main, x.evaluate(), 0);
    return x;
  }

  private static void everyKind() {
    row(valued("v0", "n-7"), new int[] {1000}, new int[] {-7});
    row(valued("v0", "t1"), new int[] {1001}, new int[] {0});
    row(valued("v0", "t0"), new int[] {1002}, new int[] {0});
    row(valued("v0", "n1 t0 both"), new int[] {1003, 1000, 1002}, new int[] {0, 1, 0});
    row(valued("v0", "n4 lit"), new int[] {1011, 1000}, new int[] {0, 4});
    row(valued("v0", "t1 bit"), new int[] {1012, 1001}, new int[] {0, 0});
    row(
        valued("v0", "n4 lit n5 lit sum"),
        new int[] {1013, 1011, 1000, 1011, 1000},
        new int[] {0, 0, 4, 0, 5});
    row(
        valued("v0", "t0 bit n4 lit n5 lit when"),
        new int[] {1014, 1012, 1002, 1011, 1000, 1011, 1000},
        new int[] {0, 0, 0, 0, 4, 0, 5});
    row(
        valued("v0", "n4 lit t1 bit duo"),
        new int[] {1015, 1011, 1000, 1012, 1001},
        new int[] {0, 0, 4, 0, 0});
    row(valued("v0", "n4 lit left"), new int[] {1016, 1011, 1000}, new int[] {0, 0, 4});
  }

  private static void wholesBeforeParts() {
    row(
        valued("v0", "n1 n2 both t1 both n3 t0 both both"),
        new int[] {1003, 1003, 1003, 1000, 1000, 1001, 1003, 1000, 1002},
        new int[] {0, 0, 0, 1, 2, 0, 0, 3, 0});
    // A value that stands in two places is written in both.
    row(
        valued("v0 v0 both", "n9 lit call"),
        new int[] {1003, 1011, 1000, 1011, 1000},
        new int[] {0, 0, 9, 0, 9});
    row(
        valued("v0", "n1 lit n2 lit sum left n3 n4 add both"),
        new int[] {1003, 1016, 1013, 1011, 1000, 1011, 1000, 1000},
        new int[] {0, 0, 0, 0, 1, 0, 2, 7});
  }

  private static void numbersStandAtNumbersAlone() {
    RigidCases x = valued("v0", "n0 n1 both t1 both");
    row(x, new int[] {1003, 1003, 1000, 1000, 1001}, new int[] {0, 0, 0, 1, 0});
    row(
        valued("v0", "n2147483647 n-2147483648 both"),
        new int[] {1003, 1000, 1000},
        new int[] {0, Integer.MAX_VALUE, Integer.MIN_VALUE});
    row(valued("v0", "n-1"), new int[] {1000}, new int[] {-1});
  }

  private static void placesOutside() {
    RigidCases x = valued("v0", "n5 n6 both");
    int[] outside = {-1, 3, 199, 200, 1000, Integer.MIN_VALUE, Integer.MAX_VALUE};
    for (int k : outside) {
      due.is("value(" + k + ")", x.value(k), -1);
      due.is("number(" + k + ")", x.number(k), 0);
    }
    due.is("value(2)", x.value(2), 1000);
    due.is("number(2)", x.number(2), 6);
  }

  private static void exactlyTwoHundred() {
    // LIT 7 has 2 places, and a call makes 4 n + 3 of n: 11, 47, 191; with 8 more and the pair 200.
    RigidCases x = valued(FOURFOLD, "n7 lit call call call n1 lit n2 n3 n4 both both both both");
    due.is("value(0)", x.value(0), 1003);
    due.is("value(191)", x.value(191), 1000);
    due.is("number(191)", x.number(191), 7);
    due.is("value(192)", x.value(192), 1003);
    due.is("number(194)", x.number(194), 1);
    due.is("value(199)", x.value(199), 1000);
    due.is("number(199)", x.number(199), 4);
    due.is("value(200)", x.value(200), -1);
    due.is("number(200)", x.number(200), 0);
    RigidCases y = valued(FOURFOLD, "n7 lit call call call n1 lit n2 n3 both both both");
    due.is("198: value(197)", y.value(197), 1000);
    due.is("198: number(197)", y.number(197), 3);
    due.is("198: value(198)", y.value(198), -1);
    due.is("198: value(199)", y.value(199), -1);
  }

  private static void moreThanTwoHundred() {
    RigidCases x =
        valued(FOURFOLD, "n7 lit call call call n1 lit n2 lit duo n3 n4 both both both");
    // 191, then a pair, DUO, LIT 1, LIT 2, and a pair of 3 and 4, of which 4 is at 200.
    due.is("value(198)", x.value(198), 1003);
    due.is("value(199)", x.value(199), 1000);
    due.is("number(199)", x.number(199), 3);
    due.is("value(200)", x.value(200), -1);
    due.is("number(200)", x.number(200), 0);
    RigidCases y = valued(FOURFOLD, "n7 lit call call call call");
    due.is("a fourth: value(0)", y.value(0), 1015);
    // Its row begins with two DUOs above a third call's 191, then the next such at 193.
    due.is("a fourth: value(192)", y.value(192), 1000);
    due.is("a fourth: value(193)", y.value(193), 1015);
    due.is("a fourth: value(199)", y.value(199), 1011);
    due.is("a fourth: value(200)", y.value(200), -1);
    due.is("a fourth: number(200)", y.number(200), 0);
  }
}
