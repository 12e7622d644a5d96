import java.io.IOException;
import java.lang.reflect.Method;
import java.lang.reflect.Modifier;
import java.nio.file.Files;
import java.nio.file.Path;
import java.util.ArrayList;
import java.util.HashMap;
import java.util.List;
import java.util.Map;
import java.util.regex.Matcher;
import java.util.regex.Pattern;

/** What README.md shows of the use of the class: its calls are made, and its tables compared. */
public final class ReadmeTest {
  private static final Due due = new Due("ReadmeTest");

  private static final String NEW = "RigidCases x = new RigidCases();";

  /** A call on x, perhaps kept in a variable, with the answer and perhaps more words behind it. */
  private static final Pattern CALL =
      Pattern.compile("(?:int (\\w+) = )?x\\.(\\w+)\\(([^()]*)\\); *// (-?\\w+)(?:: .*)?");

  private static final int MOST_CALLS = 512;

  private final List<String> lines;
  private final Map<String, Integer> kept = new HashMap<>();
  private final List<String> methods = new ArrayList<>();
  private RigidCases x;
  private int calls;

  private ReadmeTest(List<String> lines) {
    this.lines = lines;
  }

  public static void main(String[] args) throws IOException {
    ReadmeTest test = new ReadmeTest(Files.readAllLines(Path.of("README.md")));
    test.makeTheCalls();
    test.kinds();
    test.operations();
    test.limits();
    test.shapes();
    due.end();
  }

  private void makeTheCalls() {
    boolean isJava = false;
    for (int k = 0; k < lines.size(); k++) {
      String line = lines.get(k);
      if (line.startsWith("```")) {
        isJava = line.equals("```java");
      } else if (isJava && line.equals(NEW)) {
        x = new RigidCases();
        kept.clear();
        calls = 0;
      } else if (isJava) {
        makeTheCall("line " + (k + 1) + ", " + line, line);
      }
    }
    for (Method method : RigidCases.class.getDeclaredMethods()) {
      if (Modifier.isPublic(method.getModifiers())) {
        due.is(method + " is shown", methods.contains(method.getName()), true);
      }
    }
  }

  private void makeTheCall(String what, String line) {
    Matcher call = CALL.matcher(line);
    boolean isCall = call.matches() && x != null;
    due.is(what + ": a call with its answer", isCall, true);
    if (!isCall) {
      return;
    }
    calls++;
    due.is(what + ": one of 512 calls", calls <= MOST_CALLS, true);
    methods.add(call.group(2));
    int answer = answer(call.group(2), numbers(call.group(3)));
    due.is(what, answer, number(call.group(4)));
    if (call.group(1) != null) {
      due.is(what + ": a new variable", kept.put(call.group(1), answer) == null, true);
    }
  }

  private int answer(String method, int[] a) {
    return switch (method) {
      case "type" -> x.type(a[0], a[1], a[2]);
      case "make" -> x.make(a[0], a[1]);
      case "height" -> x.height();
      case "drop" -> x.drop();
      case "function" -> x.function(a[0]) ? 1 : 0;
      case "main" -> x.main(a[0]) ? 1 : 0;
      case "check" -> x.check();
      case "evaluate" -> x.evaluate();
      case "steps" -> x.steps();
      case "value" -> x.value(a[0]);
      case "number" -> x.number(a[0]);
      default -> throw new IllegalArgumentException(method);
    };
  }

  private int[] numbers(String texts) {
    if (texts.isBlank()) {
      return new int[0];
    }
    String[] each = texts.split(", ");
    int[] numbers = new int[each.length];
    for (int k = 0; k < each.length; k++) {
      numbers[k] = number(each[k]);
    }
    return numbers;
  }

  private int number(String text) {
    return switch (text) {
      case "BAD" -> RigidCases.BAD;
      case "ROOM" -> RigidCases.ROOM;
      case "true" -> 1;
      case "false" -> 0;
      default -> kept.containsKey(text) ? kept.get(text) : Integer.parseInt(text);
    };
  }

  /** The rows of the table whose first column is headed so, each as its cells. */
  private List<String[]> table(String head) {
    List<String[]> rows = new ArrayList<>();
    boolean isInside = false;
    for (String line : lines) {
      if (!line.startsWith("|")) {
        isInside = false;
      } else if (line.startsWith("| " + head + " |")) {
        isInside = true;
      } else if (isInside && !line.startsWith("| ---")) {
        rows.add(line.substring(2, line.length() - 2).split(" \\| "));
      }
    }
    return rows;
  }

  /** Whether a is taken, by what its cell says: any, a type of five, or from .. to. */
  private static boolean isIn(int a, String cell) {
    if (cell.equals("any")) {
      return true;
    }
    String[] ends = cell.equals("type") ? new String[] {"0", "4"} : cell.split(" \\.\\. ");
    return a >= Integer.parseInt(ends[0]) && a <= Integer.parseInt(ends[1]);
  }

  private static RigidCases withFiveTypes() {
    RigidCases y = new RigidCases();
    for (int name = 0; name < 3; name++) {
      y.type(2, name, 0);
    }
    return y;
  }

  private void kinds() {
    List<String[]> rows = table("kind");
    due.is("kinds", rows.size(), 3);
    for (int kind = 0; kind < rows.size(); kind++) {
      String[] row = rows.get(kind);
      due.is("kind " + kind, Integer.parseInt(row[0]), kind);
      for (int a = -2; a <= 70; a++) {
        due.is(
            "kind " + kind + " of a " + a,
            withFiveTypes().type(kind, a, 0) == RigidCases.BAD,
            !isIn(a, row[2]));
        due.is(
            "kind " + kind + " of b " + a,
            withFiveTypes().type(kind, 0, a) == RigidCases.BAD,
            !isIn(a, row[3]));
      }
    }
  }

  private void operations() {
    List<String[]> rows = table("op");
    due.is("operations", rows.size(), 18);
    for (int op = 0; op < rows.size(); op++) {
      String[] row = rows.get(op);
      due.is("operation " + op, Integer.parseInt(row[0]), op);
      due.is("its name " + row[1], Text.op(word(row[1])), op);
      for (int a = -2; a <= 70; a++) {
        operation(op, a, row);
      }
    }
  }

  /** The word that the tests' texts have for the name that a cell begins with. */
  private static String word(String cell) {
    String name = cell.split("[ ,]")[0];
    boolean isShort = name.equals("NUMBER") || name.equals("TRUTH") || name.equals("VARIABLE");
    return (isShort ? name.substring(0, 1) : name).toLowerCase();
  }

  private static void operation(int op, int a, String[] row) {
    String[] parts = row[2].split(", ");
    int needed = Integer.parseInt(parts[0]);
    if (parts.length > 1) {
      due.is("what comes on top", parts[1].equals("and one for each bit of a"), true);
      needed += Integer.bitCount(a & 63);
    }
    for (int terms = 0; terms <= 8; terms++) {
      RigidCases y = withFiveTypes();
      for (int k = 0; k < terms; k++) {
        y.make(0, 0);
      }
      boolean isTaken = isIn(a, row[3]) && terms >= needed;
      String what = "make(" + op + ", " + a + ") with " + terms + " terms";
      due.is(what, y.make(op, a), isTaken ? 1 + needed : RigidCases.BAD);
    }
  }

  private void limits() {
    List<String[]> rows = table("limit");
    due.is("limits", rows.size(), 8);
    for (String[] row : rows) {
      due.is("the limit of " + row[0], limit(row[0]), Integer.parseInt(row[1]));
    }
  }

  private static int limit(String name) {
    return switch (name) {
      case "types, INT and BOOL among them" -> types();
      case "height of a type" -> heightOfAType();
      case "terms on the stack" -> terms();
      case "size of a term" -> size();
      case "depth of a term" -> depth();
      case "steps of an evaluating" -> steps();
      case "bodies that are being evaluated" -> bodies();
      case "places of a value's row" -> places();
      default -> throw new IllegalArgumentException(name);
    };
  }

  private static int types() {
    RigidCases y = withFiveTypes();
    int count = 5;
    for (int b = 0; b < 30 && y.type(0, b % 5, b / 5) != RigidCases.ROOM; b++) {
      count++;
    }
    return count;
  }

  private static int heightOfAType() {
    RigidCases y = new RigidCases();
    int height = 1;
    int last = y.type(1, 0, 0);
    while (last != RigidCases.ROOM) {
      height++;
      last = y.type(1, last, 0);
    }
    return height;
  }

  private static int terms() {
    RigidCases y = new RigidCases();
    while (y.height() < 100 && y.make(0, 0) != RigidCases.ROOM) {
      due.is("there is room for a term", y.height() > 0, true);
    }
    return y.height();
  }

  /** The first BOTH that is too large is 1 larger than its parts together. */
  private static int size() {
    for (int size = 30; size < 60; size++) {
      RigidCases y = new RigidCases();
      Text.make(y, Sized.text(size / 2, 4));
      Text.make(y, Sized.text(size - size / 2, 4));
      if (y.make(6, 0) == RigidCases.ROOM) {
        return size;
      }
    }
    return 0;
  }

  private static int depth() {
    RigidCases y = new RigidCases();
    int depth = 0;
    for (int answer = y.make(0, 0); answer != RigidCases.ROOM; answer = y.make(10, 0)) {
      depth++;
    }
    return depth;
  }

  private static RigidCases spent(String body, String main) {
    RigidCases y = new RigidCases();
    Text.function(y, body, 0);
    Text.main(y, main, 0);
    due.is(main + " with " + body + " is SPENT", y.evaluate(), 1);
    return y;
  }

  /** A body for a LEFT makes nine calls, one for a LIT none. */
  private static int steps() {
    String calls = " v1 call v1 call v1 call when";
    return spent("v0 v0" + calls + calls + calls + " when cases33", "n0 lit left left left call")
        .steps();
  }

  /** The main term makes 2 steps, and each body 2. */
  private static int bodies() {
    return (spent("v0 call", "n0 call").steps() - 2) / 2;
  }

  private static int places() {
    RigidCases y = new RigidCases();
    Text.function(y, "v0 v0 v0 when", 0);
    Text.main(y, "n7 lit call call call call", 0);
    due.is("a value of 202 parts", y.evaluate(), 0);
    int places = 0;
    while (places < 1000 && y.value(places) != RigidCases.BAD) {
      places++;
    }
    return places;
  }

  /** A main term for each code that a value may have at its place 0. */
  private void shapes() {
    Map<String, String> terms = new HashMap<>();
    terms.put("a number", "n1000");
    terms.put("what is true", "t1");
    terms.put("what is not true", "t0");
    terms.put("a pair", "n1 n2 both");
    terms.put("made by LIT", "n1 lit");
    terms.put("made by BIT", "t1 bit");
    terms.put("made by SUM", "n1 lit n2 lit sum");
    terms.put("made by WHEN", "t1 bit n1 lit n2 lit when");
    terms.put("made by DUO", "n1 lit n2 lit duo");
    terms.put("made by LEFT", "n1 lit left");
    List<String[]> rows = table("value");
    due.is("codes", rows.size(), terms.size());
    for (String[] row : rows) {
      RigidCases y = new RigidCases();
      Text.main(y, terms.remove(row[1]), 0);
      due.is(row[1] + " is a value", y.evaluate(), 0);
      due.is(row[1], y.value(0), Integer.parseInt(row[0]));
    }
  }
}
