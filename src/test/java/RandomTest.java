/** Random programs, from fixed seeds: the program answers what the reference does. */
public final class RandomTest {
  private static final Due due = new Due("RandomTest");

  /** More than it takes to take a term, to ask about it, and to clear the stack. */
  private static final int CALLS_BEHIND_A_TERM = 40;

  private final Programs programs;
  private final String name;
  private final Compared x;
  private final int[] checks;
  private final int[] outcomes;

  private RandomTest(long seed, int[] checks, int[] outcomes) {
    programs = new Programs(seed);
    name = "seed " + seed;
    x = new Compared(due, name);
    this.checks = checks;
    this.outcomes = outcomes;
  }

  public static void main(String[] args) {
    int seeds = args.length > 0 ? Integer.parseInt(args[0]) : 3000;
    int[] checks = new int[3];
    int[] outcomes = new int[3];
    for (int seed = 0; seed < seeds; seed++) {
      new RandomTest(seed, checks, outcomes).programs();
    }
    for (int k = 0; k < 3; k++) {
      System.out.println(k + ": " + checks[k] + " checks, " + outcomes[k] + " outcomes");
      due.is("enough checks answer " + k, checks[k] > seeds / 4, true);
      due.is("enough evaluatings answer " + k, outcomes[k] > seeds / 60, true);
    }
    due.end();
  }

  private int type(int kind, int a, int b) {
    int answer = x.type(kind, a, b);
    programs.made(answer, kind, a, b);
    return answer;
  }

  private boolean hasCallsForATerm() {
    return x.left() > CALLS_BEHIND_A_TERM;
  }

  private boolean build(Programs.Term term) {
    for (Programs.Term part : term.parts()) {
      if (!build(part)) {
        return false;
      }
    }
    return hasCallsForATerm() && x.make(term.op(), term.a()) > 0;
  }

  private void clear() {
    while (x.height() > 0) {
      x.drop();
    }
  }

  /** A few types, a function, and main terms. */
  private void programs() {
    type(2, 0, 0);
    for (int k = programs.below(8); k > 0; k--) {
      int kind = programs.below(7) / 3;
      int a = programs.below(kind == 2 ? 3 : programs.types());
      type(kind, a, programs.below(programs.types()));
    }
    programs.spoil(programs.below(2) * programs.below(60));
    int result = programs.below(3) == 0 ? programs.below(programs.types()) : programs.below(2) * 2;
    programs.result(result);
    for (int tries = 0; tries < 4 && hasCallsForATerm(); tries++) {
      if (build(programs.body(result, 2 + programs.below(4)))) {
        x.function(result);
        if (x.check() != 1) {
          break;
        }
      }
      clear();
    }
    for (int mains = 0; mains < 4 && hasCallsForATerm(); mains++) {
      int type = programs.below(programs.types());
      if (build(programs.main(type, 1 + programs.below(6)))) {
        x.main(type);
        compareProgram();
      }
      if (hasCallsForATerm()) {
        clear();
      }
    }
  }

  private void compareProgram() {
    int check = x.check();
    checks[check]++;
    int outcome = x.evaluate();
    outcomes[outcome]++;
    x.steps();
    due.is(name + ": a well typed program is not stuck", check == 0 && outcome == 2, false);
    compareRow();
  }

  private void compareRow() {
    for (int k = -1; k <= 200 && x.left() >= 2; k++) {
      x.number(k);
      if (x.value(k) < 0 && k >= 0) {
        break;
      }
    }
  }
}
