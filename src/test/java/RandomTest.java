/** Random calls and programs, from fixed seeds: the program answers what the reference does. */
public final class RandomTest {
  private static final Due due = new Due("RandomTest");

  private final Programs programs;
  private final String name;
  private final RigidCases x = new RigidCases();
  private final Reference y = new Reference();
  private final int[] checks;
  private final int[] outcomes;

  private RandomTest(long seed, int[] checks, int[] outcomes) {
    programs = new Programs(seed);
    name = "seed " + seed + ": ";
    this.checks = checks;
    this.outcomes = outcomes;
  }

  public static void main(String[] args) {
    int seeds = args.length > 0 ? Integer.parseInt(args[0]) : 3000;
    int[] checks = new int[3];
    int[] outcomes = new int[3];
    for (int seed = 0; seed < seeds; seed++) {
      new RandomTest(seed, checks, outcomes).programs();
    }
    for (int seed = 0; seed < 300; seed++) {
      new RandomTest(seed, checks, outcomes).anyCalls();
    }
    for (int k = 0; k < 3; k++) {
      System.out.println(k + ": " + checks[k] + " checks, " + outcomes[k] + " outcomes");
      due.is("enough checks answer " + k, checks[k] > seeds / 4, true);
      due.is("enough evaluatings answer " + k, outcomes[k] > seeds / 60, true);
    }
    due.end();
  }

  private int type(int kind, int a, int b) {
    int answer = x.type(kind, a, b);
    due.is(name + "type(" + kind + ", " + a + ", " + b + ")", answer, y.type(kind, a, b));
    programs.made(answer, kind, a, b);
    return answer;
  }

  private int make(int op, int a) {
    int answer = x.make(op, a);
    due.is(name + "make(" + op + ", " + a + ")", answer, y.make(op, a));
    return answer;
  }

  private boolean build(Programs.Term term) {
    for (Programs.Term part : term.parts()) {
      if (!build(part)) {
        return false;
      }
    }
    return make(term.op(), term.a()) > 0;
  }

  private void clear() {
    while (x.height() > 0) {
      due.is(name + "drop", x.drop(), y.drop());
    }
    due.is(name + "height", x.height(), y.height());
  }

  /** A few types, a function, and main terms. */
  private void programs() {
    type(2, 0, 0);
    for (int k = programs.below(8); k > 0; k--) {
      int kind = programs.below(7) / 3;
      int a = programs.below(kind == 2 ? 3 : programs.types());
      type(kind, a, programs.below(programs.types()));
    }
    programs.spoil(programs.below(2) * programs.below(60));
    int result = programs.below(3) == 0 ? programs.below(programs.types()) : programs.below(2) * 2;
    programs.result(result);
    for (int tries = 0; tries < 4; tries++) {
      if (build(programs.body(result, 2 + programs.below(4)))) {
        due.is(name + "function", x.function(result), y.function(result));
        if (x.check() != 1) {
          break;
        }
      }
      clear();
    }
    for (int mains = 0; mains < 4; mains++) {
      int type = programs.below(programs.types());
      if (build(programs.main(type, 1 + programs.below(6)))) {
        due.is(name + "main", x.main(type), y.main(type));
        compareProgram();
      }
      clear();
    }
  }

  private void compareProgram() {
    int check = x.check();
    due.is(name + "check", check, y.check());
    checks[check]++;
    int outcome = x.evaluate();
    due.is(name + "evaluate", outcome, y.evaluate());
    outcomes[outcome]++;
    due.is(name + "steps", x.steps(), y.steps());
    due.is(name + "a well typed program is not stuck", check == 0 && outcome == 2, false);
    compareRow();
  }

  private void compareRow() {
    for (int k = -1; k <= 200; k++) {
      due.is(name + "value(" + k + ")", x.value(k), y.value(k));
      due.is(name + "number(" + k + ")", x.number(k), y.number(k));
      if (k >= 0 && x.value(k) < 0) {
        break;
      }
    }
  }

  /** Calls without sense, wrong numbers among them. */
  private void anyCalls() {
    for (int call = 0; call < 500; call++) {
      int a = programs.below(30) - 2;
      switch (programs.below(12)) {
        case 0:
          int b = programs.below(programs.types() + 2) - 1;
          type(programs.below(5) - 1, programs.below(programs.types() + 2) - 1, b);
          break;
        case 1:
          due.is(name + "drop", x.drop(), y.drop());
          break;
        case 2:
          due.is(name + "function(" + a + ")", x.function(a), y.function(a));
          break;
        case 3:
          due.is(name + "main(" + a + ")", x.main(a), y.main(a));
          break;
        case 4:
          due.is(name + "check", x.check(), y.check());
          break;
        case 5:
          due.is(name + "evaluate", x.evaluate(), y.evaluate());
          due.is(name + "steps", x.steps(), y.steps());
          break;
        case 6:
          due.is(name + "value(" + a + ")", x.value(a), y.value(a));
          due.is(name + "number(" + a + ")", x.number(a), y.number(a));
          break;
        case 7:
          make(17, programs.below(66) - 1);
          break;
        default:
          make(programs.below(20) - 1, programs.below(5) == 0 ? a : programs.below(3));
          break;
      }
      due.is(name + "height", x.height(), y.height());
    }
  }
}
