import java.io.IOException;
import java.lang.reflect.Field;
import java.lang.reflect.Method;
import java.lang.reflect.Modifier;
import java.nio.file.Files;
import java.nio.file.Path;
import java.util.List;
import java.util.TreeSet;

/** The rules of LANGUAGE.md that can be seen from the text and the classes. */
public final class LanguageTest {
  private static final Due due = new Due("LanguageTest");

  private static final String SOURCE = "src/main/java/RigidCases.java";

  /** Words and signs that the rules leave out, or that this program has no need of. */
  private static final String[] LEFT_OUT = {
    "->", "::", "package ", "finally", "try", "catch", "throw", "synchronized", "assert ",
    "System.out", "System.in", "System.nano", "System.current", "Random", "Thread", "import static",
    "double", "float", "while (true)", "for (;;)", "static {", "@"
  };

  public static void main(String[] args) throws IOException {
    List<String> lines = Files.readAllLines(Path.of(SOURCE));
    due.is("the source is there", lines.size() > 100, true);
    nothingLeftOut(lines);
    methodsAreShort(lines);
    onlyConstructorsMakeObjects(lines);
    Class<?>[] inside = RigidCases.class.getDeclaredClasses();
    due.is("rule 11: at most twelve classes", 1 + inside.length <= 12, true);
    methods(RigidCases.class);
    fields(RigidCases.class);
    for (Class<?> one : inside) {
      methods(one);
      fields(one);
    }
    due.end();
  }

  /** The line without what a comment says. */
  private static String code(String line) {
    String text = line.trim();
    boolean isComment = text.startsWith("*") || text.startsWith("/*") || text.startsWith("//");
    return isComment ? "" : text;
  }

  private static void nothingLeftOut(List<String> lines) {
    for (int k = 0; k < lines.size(); k++) {
      String text = code(lines.get(k));
      for (String word : LEFT_OUT) {
        due.is("line " + (k + 1) + " has " + word, text.contains(word), false);
      }
      if (text.startsWith("import ")) {
        due.is("rule 4: " + text, text.equals("import java.util.Arrays;"), true);
      }
    }
  }

  /** Whether a line opens a method or constructor: its brace is closed at the same indent. */
  private static boolean opensMethod(String line) {
    String text = code(line);
    boolean isOther = text.contains(" class ") || text.contains(" = ") || text.contains("switch ");
    boolean isDeep = line.startsWith("      ");
    return text.endsWith(") {") && !isOther && !isDeep && !text.matches("(if|for|while|}).*");
  }

  private static int closing(List<String> lines, int from) {
    String line = lines.get(from);
    String close = line.substring(0, line.length() - line.stripLeading().length()) + "}";
    for (int k = from + 1; k < lines.size(); k++) {
      if (lines.get(k).equals(close)) {
        return k;
      }
    }
    return lines.size();
  }

  /** Rule 11: "Methods stay short (some sixty lines)". */
  private static void methodsAreShort(List<String> lines) {
    int seen = 0;
    for (int k = 0; k < lines.size(); k++) {
      if (opensMethod(lines.get(k))) {
        seen++;
        int length = closing(lines, k) - k + 1;
        due.is("rule 11: line " + (k + 1) + " begins a short method", length <= 60, true);
      }
    }
    due.is("methods were seen", seen > 50, true);
  }

  /** All rows are made with the object, so that calls make nothing that would be counted. */
  private static void onlyConstructorsMakeObjects(List<String> lines) {
    for (int k = 0; k < lines.size(); k++) {
      String text = code(lines.get(k));
      if (text.contains("new ")) {
        boolean isField = text.startsWith("private final ");
        boolean isConstructor = text.matches("\\w+ = new \\w+\\(.*\\);");
        due.is("line " + (k + 1) + " makes an object", isField || isConstructor, true);
      }
    }
  }

  /** Rules 1 and 11: no private method with a public one's name, at most seven parameters. */
  private static void methods(Class<?> one) {
    TreeSet<String> face = new TreeSet<>();
    for (Method method : RigidCases.class.getDeclaredMethods()) {
      if (Modifier.isPublic(method.getModifiers())) {
        face.add(method.getName());
      }
    }
    for (Method method : one.getDeclaredMethods()) {
      boolean isFace = one == RigidCases.class && Modifier.isPublic(method.getModifiers());
      due.is("rule 1: " + method, !isFace && face.contains(method.getName()), false);
      due.is("rule 11: " + method, method.getParameterCount() <= 7, true);
    }
  }

  /** Rules 5 and 11: static fields are final, and beside constants there are at most twenty. */
  private static void fields(Class<?> one) {
    int own = 0;
    for (Field field : one.getDeclaredFields()) {
      boolean isStatic = Modifier.isStatic(field.getModifiers());
      due.is("rule 5: " + field, isStatic && !Modifier.isFinal(field.getModifiers()), false);
      boolean isPlain = field.getType() == int.class || field.getType() == int[].class;
      due.is("rule 5: " + field, isStatic && !isPlain, false);
      own += isStatic ? 0 : 1;
    }
    due.is("rule 11: fields of " + one, own <= 20, true);
  }
}
