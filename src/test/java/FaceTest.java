import java.lang.reflect.Constructor;
import java.lang.reflect.Field;
import java.lang.reflect.Method;
import java.lang.reflect.Modifier;
import java.util.TreeSet;

/** The public face, and nothing else that could be seen from outside. */
public final class FaceTest {
  private static final Due due = new Due("FaceTest");

  private static final String[] METHODS = {
    "int type(int,int,int)",
    "int make(int,int)",
    "int height()",
    "int drop()",
    "boolean function(int)",
    "boolean main(int)",
    "int check()",
    "int evaluate()",
    "int steps()",
    "int value(int)",
    "int number(int)"
  };

  public static void main(String[] args) {
    due.is("public and final", RigidCases.class.getModifiers(), Modifier.PUBLIC | Modifier.FINAL);
    methods();
    fields();
    constructors();
    for (Class<?> inside : RigidCases.class.getDeclaredClasses()) {
      due.is(inside + " is hidden", Modifier.isPublic(inside.getModifiers()), false);
      due.is(inside + " is static", Modifier.isStatic(inside.getModifiers()), true);
    }
    due.end();
  }

  private static String written(Method method) {
    StringBuilder text = new StringBuilder();
    for (Class<?> parameter : method.getParameterTypes()) {
      text.append(text.length() == 0 ? "" : ",").append(parameter);
    }
    return method.getReturnType() + " " + method.getName() + "(" + text + ")";
  }

  private static void methods() {
    TreeSet<String> names = new TreeSet<>();
    for (Method method : RigidCases.class.getDeclaredMethods()) {
      boolean isPrivate = Modifier.isPrivate(method.getModifiers());
      if (!isPrivate && !method.isSynthetic()) {
        due.is(method + " is public alone", method.getModifiers(), Modifier.PUBLIC);
        names.add(written(method));
      }
    }
    due.is("the number of methods", names.size(), METHODS.length);
    for (String method : METHODS) {
      due.is(method + " is there", names.contains(method), true);
    }
  }

  private static void fields() {
    int seen = 0;
    for (Field field : RigidCases.class.getDeclaredFields()) {
      if (!Modifier.isPrivate(field.getModifiers())) {
        seen++;
        boolean known = field.getName().equals("BAD") || field.getName().equals("ROOM");
        due.is(field + " is a constant", known && field.getType() == int.class, true);
      }
      int modifiers = field.getModifiers();
      boolean changes = Modifier.isStatic(modifiers) && !Modifier.isFinal(modifiers);
      due.is(field + " is no static state", changes, false);
    }
    due.is("the number of constants", seen, 2);
  }

  private static void constructors() {
    Constructor<?>[] constructors = RigidCases.class.getDeclaredConstructors();
    due.is("the number of constructors", constructors.length, 1);
    due.is("it is public", constructors[0].getModifiers(), Modifier.PUBLIC);
    due.is("without parameters", constructors[0].getParameterCount(), 0);
  }
}
