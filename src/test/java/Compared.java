/**
 * An object that is called together with the reference: each answer is compared, and no more calls
 * are made than the document answers for.
 */
final class Compared {
  static final int MOST_CALLS = 512;

  private final RigidCases x = new RigidCases();
  private final Reference y = new Reference();
  private final Due due;
  private final String name;
  private int calls;

  Compared(Due due, String name) {
    this.due = due;
    this.name = name;
  }

  /** How many calls more the document answers for. */
  int left() {
    return MOST_CALLS - calls;
  }

  private void is(String call, int got, int want) {
    calls++;
    if (calls > MOST_CALLS) {
      throw new IllegalStateException(name + ": more than 512 calls");
    }
    due.is(name + ", call " + calls + ", " + call, got, want);
  }

  int type(int kind, int a, int b) {
    int answer = x.type(kind, a, b);
    is("type(" + kind + ", " + a + ", " + b + ")", answer, y.type(kind, a, b));
    return answer;
  }

  int make(int op, int a) {
    int answer = x.make(op, a);
    is("make(" + op + ", " + a + ")", answer, y.make(op, a));
    return answer;
  }

  /** Makes every term of a text. */
  void make(String text) {
    for (String word : text.split(" ")) {
      make(Text.op(word), Text.argument(word));
    }
  }

  int height() {
    int answer = x.height();
    is("height()", answer, y.height());
    return answer;
  }

  int drop() {
    int answer = x.drop();
    is("drop()", answer, y.drop());
    return answer;
  }

  boolean function(int result) {
    boolean answer = x.function(result);
    is("function(" + result + ")", answer ? 1 : 0, y.function(result) ? 1 : 0);
    return answer;
  }

  boolean main(int type) {
    boolean answer = x.main(type);
    is("main(" + type + ")", answer ? 1 : 0, y.main(type) ? 1 : 0);
    return answer;
  }

  int check() {
    int answer = x.check();
    is("check()", answer, y.check());
    return answer;
  }

  int evaluate() {
    int answer = x.evaluate();
    is("evaluate()", answer, y.evaluate());
    return answer;
  }

  int steps() {
    int answer = x.steps();
    is("steps()", answer, y.steps());
    return answer;
  }

  int value(int k) {
    int answer = x.value(k);
    is("value(" + k + ")", answer, y.value(k));
    return answer;
  }

  int number(int k) {
    int answer = x.number(k);
    is("number(" + k + ")", answer, y.number(k));
    return answer;
  }
}
