/**
 * Two objects that were made alike, one of them refused calls besides: whether they answer alike
 * from then on. All is asked that calls can tell, so it is the last that is done with them.
 */
final class Alike {
  private final Due due;
  private final String what;
  private final RigidCases x;
  private final RigidCases y;

  private Alike(Due due, String what, RigidCases x, RigidCases y) {
    this.due = due;
    this.what = what;
    this.x = x;
    this.y = y;
  }

  static void are(Due due, String what, RigidCases x, RigidCases y) {
    Alike alike = new Alike(due, what, x, y);
    alike.latest("before");
    alike.program("the program");
    alike.terms();
    alike.body();
    alike.types();
  }

  private void is(String asked, long got, long want) {
    due.is(what + ", " + asked, got, want);
  }

  /** What the latest evaluating left. */
  private void latest(String when) {
    is(when + ": height", x.height(), y.height());
    is(when + ": steps", x.steps(), y.steps());
    for (int k = 0; k <= 200; k++) {
      int place = y.value(k);
      is(when + ": value(" + k + ")", x.value(k), place);
      is(when + ": number(" + k + ")", x.number(k), y.number(k));
      if (place == RigidCases.BAD) {
        break;
      }
    }
  }

  private void program(String when) {
    is(when + ": check", x.check(), y.check());
    is(when + ": evaluate", x.evaluate(), y.evaluate());
    latest(when);
  }

  /** Every term on the stack, as a main term. */
  private void terms() {
    for (int left = y.height(); left > 0; left--) {
      is("term " + left, x.main(1) ? 1 : 0, y.main(1) ? 1 : 0);
      program("term " + left);
    }
    is("no term is left", x.drop(), y.drop());
  }

  private void body() {
    Text.main(x, "n7 lit call", 0);
    Text.main(y, "n7 lit call", 0);
    program("the body");
    // What the result can be used for: as a BOOL, for a call, as a pair.
    for (String text : new String[] {"n7 lit call", "n7 lit call call", "n7 lit call first"}) {
      Text.main(x, text, 1);
      Text.main(y, text, 1);
      is("the result by " + text, x.check(), y.check());
    }
  }

  /** Which types there are, what they are, and how many more have room. */
  private void types() {
    for (int type = -1; type <= 24; type++) {
      x.make(0, 0);
      y.make(0, 0);
      is("as type " + type, x.make(10, type), y.make(10, type));
      x.drop();
      y.drop();
    }
    for (int name = 0; name < 3; name++) {
      is("name " + name, x.type(2, name, 0), y.type(2, name, 0));
    }
    for (int type = 0; type < 24; type++) {
      is("exp of " + type, x.type(1, type, 0), y.type(1, type, 0));
      is("pair of " + type, x.type(0, type, 0), y.type(0, type, 0));
    }
  }
}
