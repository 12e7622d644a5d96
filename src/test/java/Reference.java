import java.util.ArrayList;
import java.util.HashMap;
import java.util.List;
import java.util.Map;
import java.util.TreeSet;

/**
 * The document's words once more, slowly and with other means: trees for terms and values, a list
 * of equations, and their consequences drawn until there are no more.
 */
final class Reference {
  static final int PAIR = 0;
  static final int EXP = 1;
  static final int NAME = 2;
  static final int INT_KIND = 3;
  static final int BOOL_KIND = 4;

  /** A term. */
  record Term(int op, int a, List<Term> parts) {
    int size() {
      int size = 1;
      for (Term part : parts) {
        size += part.size();
      }
      return size;
    }

    int depth() {
      int deepest = 0;
      for (Term part : parts) {
        deepest = Math.max(deepest, part.depth());
      }
      return 1 + deepest;
    }
  }

  /** A value: the code of promise 11, a number, parts. */
  record Value(int code, int number, List<Value> parts) {}

  private record Key(int kind, int a, int b) {}

  private record Equation(int left, int right) {}

  private static final class Wrong extends RuntimeException {
    private static final long serialVersionUID = 1;
  }

  private static final class Stuck extends RuntimeException {
    private static final long serialVersionUID = 1;
  }

  private static final class Spent extends RuntimeException {
    private static final long serialVersionUID = 1;
  }

  /** All types ever built; the object's own ones are numbered by lasting. */
  private final List<Key> built = new ArrayList<>();
  private final Map<Key, Integer> ids = new HashMap<>();
  private final List<Integer> lasting = new ArrayList<>();
  private final List<Term> stack = new ArrayList<>();
  private Term body = new Term(0, 0, List.of());
  private Term mainTerm = new Term(0, 0, List.of());
  private int result;
  private int mainType;
  private int names = 3;
  private int steps;
  private int bodies;
  private Value last;
  private final int intType;
  private final int boolType;

  Reference() {
    intType = id(INT_KIND, 0, 0);
    boolType = id(BOOL_KIND, 0, 0);
    lasting.add(intType);
    lasting.add(boolType);
    result = intType;
    mainType = intType;
  }

  private int id(int kind, int a, int b) {
    Key key = new Key(kind, a, b);
    if (!ids.containsKey(key)) {
      ids.put(key, built.size());
      built.add(key);
    }
    return ids.get(key);
  }

  private int exp(int a) {
    return id(EXP, a, 0);
  }

  private int pair(int a, int b) {
    return id(PAIR, a, b);
  }

  private int newName() {
    return id(NAME, names++, 0);
  }

  private int height(int type) {
    Key key = built.get(type);
    return switch (key.kind) {
      case PAIR -> 1 + Math.max(height(key.a), height(key.b));
      case EXP -> 1 + height(key.a);
      default -> 1;
    };
  }

  private boolean isType(int a) {
    return a >= 0 && a < lasting.size();
  }

  int type(int kind, int a, int b) {
    int type;
    if (kind == PAIR && isType(a) && isType(b)) {
      type = pair(lasting.get(a), lasting.get(b));
    } else if (kind == EXP && isType(a)) {
      type = exp(lasting.get(a));
    } else if (kind == NAME && a >= 0 && a <= 2) {
      type = id(NAME, a, 0);
    } else {
      return -1;
    }
    if (lasting.contains(type)) {
      return lasting.indexOf(type);
    }
    if (lasting.size() == 24 || height(type) > 4) {
      return -2;
    }
    lasting.add(type);
    return lasting.size() - 1;
  }

  static int partsOf(int op, int a) {
    return switch (op) {
      case 0, 1, 2 -> 0;
      case 7, 8, 9, 10, 11, 12, 16 -> 1;
      case 3, 4, 6, 13, 15 -> 2;
      case 5, 14 -> 3;
      default -> 1 + Integer.bitCount(a);
    };
  }

  int make(int op, int a) {
    boolean said =
        switch (op) {
          case 1 -> a == 0 || a == 1;
          case 2 -> a >= 0 && a <= 11;
          case 10 -> isType(a);
          case 17 -> a >= 1 && a <= 63;
          default -> op >= 0 && op <= 16;
        };
    if (!said || stack.size() < partsOf(op, a)) {
      return -1;
    }
    int from = stack.size() - partsOf(op, a);
    Term term = new Term(op, a, List.copyOf(stack.subList(from, stack.size())));
    if (from >= 12 || term.size() > 40 || term.depth() > 6) {
      return -2;
    }
    stack.subList(from, stack.size()).clear();
    stack.add(term);
    return term.size();
  }

  int height() {
    return stack.size();
  }

  int drop() {
    if (stack.isEmpty()) {
      return -1;
    }
    stack.remove(stack.size() - 1);
    return stack.size();
  }

  boolean function(int type) {
    if (stack.isEmpty() || !isType(type)) {
      return false;
    }
    body = stack.remove(stack.size() - 1);
    result = lasting.get(type);
    return true;
  }

  boolean main(int type) {
    if (stack.isEmpty() || !isType(type)) {
      return false;
    }
    mainTerm = stack.remove(stack.size() - 1);
    mainType = lasting.get(type);
    return true;
  }

  int check() {
    if (!isRight(body, result, List.of(exp(id(NAME, 0, 0))))) {
      return 1;
    }
    return isRight(mainTerm, mainType, List.of()) ? 0 : 2;
  }

  private boolean isRight(Term term, int type, List<Integer> environment) {
    try {
      check(term, type, environment, List.of());
      return true;
    } catch (Wrong e) {
      return false;
    }
  }

  private static void need(boolean right) {
    if (!right) {
      throw new Wrong();
    }
  }

  /** What follows from equations for the types in them and some others, with all their parts. */
  private final class Consequences {
    private final TreeSet<Integer> universe = new TreeSet<>();
    private final Map<Integer, Integer> group = new HashMap<>();

    Consequences(List<Equation> equations, int... others) {
      for (Equation equation : equations) {
        addAll(equation.left);
        addAll(equation.right);
      }
      for (int other : others) {
        addAll(other);
      }
      for (int type : universe) {
        group.put(type, type);
      }
      for (Equation equation : equations) {
        join(equation.left, equation.right);
      }
      boolean more = true;
      while (more) {
        more = false;
        for (int x : universe) {
          for (int y : universe) {
            more |= x < y && draw(x, y);
          }
        }
      }
    }

    private void addAll(int type) {
      if (universe.add(type)) {
        Key key = built.get(type);
        if (key.kind == PAIR || key.kind == EXP) {
          addAll(key.a);
        }
        if (key.kind == PAIR) {
          addAll(key.b);
        }
      }
    }

    private boolean join(int x, int y) {
      int from = group.get(x);
      int to = group.get(y);
      if (from == to) {
        return false;
      }
      for (int type : universe) {
        if (group.get(type) == from) {
          group.put(type, to);
        }
      }
      return true;
    }

    private boolean draw(int x, int y) {
      Key p = built.get(x);
      Key q = built.get(y);
      if (p.kind != q.kind || (p.kind != PAIR && p.kind != EXP)) {
        return false;
      }
      boolean isPair = p.kind == PAIR;
      if (same(x, y)) {
        boolean more = join(p.a, q.a);
        return (isPair && join(p.b, q.b)) | more;
      }
      return same(p.a, q.a) && (!isPair || same(p.b, q.b)) && join(x, y);
    }

    boolean same(int x, int y) {
      return group.get(x).equals(group.get(y));
    }

    int form(int type, int kind) {
      for (int other : universe) {
        if (same(type, other) && built.get(other).kind == kind) {
          return other;
        }
      }
      throw new Wrong();
    }

    boolean areImpossible() {
      for (int x : universe) {
        for (int y : universe) {
          int p = built.get(x).kind;
          int q = built.get(y).kind;
          if (p != q && p != NAME && q != NAME && same(x, y)) {
            return true;
          }
        }
        if (reaches(x, x, universe.size())) {
          return true;
        }
      }
      return false;
    }

    /** Whether a type equal to this one has, at some depth, a part equal to the goal. */
    private boolean reaches(int from, int goal, int levels) {
      if (levels < 0) {
        return true;
      }
      for (int other : universe) {
        Key key = built.get(other);
        if (same(from, other) && (key.kind == PAIR || key.kind == EXP)) {
          boolean first = same(key.a, goal) || reaches(key.a, goal, levels - 1);
          boolean second =
              key.kind == PAIR && (same(key.b, goal) || reaches(key.b, goal, levels - 1));
          if (first || second) {
            return true;
          }
        }
      }
      return false;
    }
  }

  private int form(int type, int kind, List<Equation> equations) {
    return new Consequences(equations, type).form(type, kind);
  }

  private int inside(int type, List<Equation> equations) {
    return built.get(form(type, EXP, equations)).a;
  }

  private int resultAt(int type, int at) {
    Key key = built.get(type);
    return switch (key.kind) {
      case PAIR -> pair(resultAt(key.a, at), resultAt(key.b, at));
      case EXP -> exp(resultAt(key.a, at));
      case NAME -> key.a == 0 ? at : type;
      default -> type;
    };
  }

  private int find(Term term, List<Integer> environment, List<Equation> equations) {
    List<Term> parts = term.parts;
    switch (term.op) {
      case 0:
        return intType;
      case 1:
        return boolType;
      case 2:
        need(term.a < environment.size());
        return environment.get(term.a);
      case 3:
      case 4:
        check(parts.get(0), intType, environment, equations);
        check(parts.get(1), intType, environment, equations);
        return term.op == 3 ? intType : boolType;
      case 6:
        return pair(
            find(parts.get(0), environment, equations), find(parts.get(1), environment, equations));
      case 7:
        return built.get(form(find(parts.get(0), environment, equations), PAIR, equations)).a;
      case 8:
        return built.get(form(find(parts.get(0), environment, equations), PAIR, equations)).b;
      case 9:
        return resultAt(result, inside(find(parts.get(0), environment, equations), equations));
      case 10:
        check(parts.get(0), lasting.get(term.a), environment, equations);
        return lasting.get(term.a);
      case 11:
        check(parts.get(0), intType, environment, equations);
        return exp(intType);
      case 12:
        check(parts.get(0), boolType, environment, equations);
        return exp(boolType);
      case 13:
        check(parts.get(0), exp(intType), environment, equations);
        check(parts.get(1), exp(intType), environment, equations);
        return exp(intType);
      case 14:
        int e = inside(find(parts.get(1), environment, equations), equations);
        check(parts.get(0), exp(boolType), environment, equations);
        check(parts.get(2), exp(e), environment, equations);
        return exp(e);
      case 15:
        return exp(
            pair(
                inside(find(parts.get(0), environment, equations), equations),
                inside(find(parts.get(1), environment, equations), equations)));
      case 16:
        int of = inside(find(parts.get(0), environment, equations), equations);
        return exp(built.get(form(of, PAIR, equations)).a);
      default:
        throw new Wrong();
    }
  }

  private void check(Term term, int type, List<Integer> environment, List<Equation> equations) {
    if (term.op == 5) {
      check(term.parts.get(0), boolType, environment, equations);
      check(term.parts.get(1), type, environment, equations);
      check(term.parts.get(2), type, environment, equations);
    } else if (term.op == 17) {
      int e = inside(find(term.parts.get(0), environment, equations), equations);
      int next = 1;
      for (int maker = 0; maker < 6; maker++) {
        boolean there = (term.a >> maker & 1) == 1;
        Term part = there ? term.parts.get(next) : null;
        next += there ? 1 : 0;
        checkCase(maker, part, e, type, environment, equations);
      }
    } else {
      int found = find(term, environment, equations);
      need(new Consequences(equations, found, type).same(found, type));
    }
  }

  private void checkCase(
      int maker, Term part, int e, int type, List<Integer> before, List<Equation> soFar) {
    List<Integer> environment = new ArrayList<>(before);
    List<Equation> equations = new ArrayList<>(soFar);
    switch (maker) {
      case 0:
        equations.add(new Equation(e, intType));
        environment.add(intType);
        break;
      case 1:
        equations.add(new Equation(e, boolType));
        environment.add(boolType);
        break;
      case 2:
        equations.add(new Equation(e, intType));
        environment.add(exp(intType));
        environment.add(exp(intType));
        break;
      case 3:
        environment.add(exp(boolType));
        environment.add(exp(e));
        environment.add(exp(e));
        break;
      case 4:
        int x = newName();
        int y = newName();
        equations.add(new Equation(e, pair(x, y)));
        environment.add(exp(x));
        environment.add(exp(y));
        break;
      default:
        environment.add(exp(pair(e, newName())));
        break;
    }
    if (!new Consequences(equations).areImpossible()) {
      need(part != null);
      check(part, type, environment, equations);
    }
  }

  int evaluate() {
    steps = 0;
    bodies = 0;
    last = null;
    try {
      last = run(mainTerm, List.of());
      return 0;
    } catch (Spent e) {
      return 1;
    } catch (Stuck e) {
      return 2;
    }
  }

  private static boolean isMade(Value value) {
    return value.code > 1010;
  }

  private static Value number(int number, List<Value> none) {
    return new Value(1000, number, none);
  }

  private static void want(boolean wanted) {
    if (!wanted) {
      throw new Stuck();
    }
  }

  private Value run(Term term, List<Value> variables) {
    if (steps == 600) {
      throw new Spent();
    }
    steps++;
    switch (term.op) {
      case 0:
        return number(term.a, List.of());
      case 1:
        return new Value(term.a == 1 ? 1001 : 1002, 0, List.of());
      case 2:
        want(term.a < variables.size());
        return variables.get(term.a);
      case 5:
        Value truth = run(term.parts.get(0), variables);
        want(truth.code == 1001 || truth.code == 1002);
        return run(term.parts.get(truth.code - 1000), variables);
      case 9:
        Value argument = run(term.parts.get(0), variables);
        if (bodies == 4) {
          throw new Spent();
        }
        bodies++;
        Value given = run(body, List.of(argument));
        bodies--;
        return given;
      case 17:
        return runCases(term, variables);
      default:
        return runParts(term, variables);
    }
  }

  private Value runCases(Term term, List<Value> variables) {
    Value subject = run(term.parts.get(0), variables);
    want(isMade(subject));
    int maker = subject.code - 1011;
    want((term.a >> maker & 1) == 1);
    int at = 1;
    for (int other = 0; other < maker; other++) {
      at += term.a >> other & 1;
    }
    List<Value> more = new ArrayList<>(variables);
    more.addAll(subject.parts);
    return run(term.parts.get(at), more);
  }

  private Value runParts(Term term, List<Value> variables) {
    List<Value> values = new ArrayList<>();
    for (Term part : term.parts) {
      Value value = run(part, variables);
      switch (term.op) {
        case 3, 4, 11 -> want(value.code == 1000);
        case 7, 8 -> want(value.code == 1003);
        case 12 -> want(value.code == 1001 || value.code == 1002);
        case 13, 14, 15, 16 -> want(isMade(value));
        default -> { }
      }
      values.add(value);
    }
    return switch (term.op) {
      case 3 -> number(values.get(0).number + values.get(1).number, List.of());
      case 4 -> new Value(values.get(0).number < values.get(1).number ? 1001 : 1002, 0, List.of());
      case 6 -> new Value(1003, 0, values);
      case 7 -> values.get(0).parts.get(0);
      case 8 -> values.get(0).parts.get(1);
      case 10 -> values.get(0);
      default -> new Value(1000 + term.op, 0, values);
    };
  }

  int steps() {
    return steps;
  }

  private static void write(Value value, List<Value> row) {
    if (row.size() < 200) {
      row.add(value);
      for (Value part : value.parts) {
        write(part, row);
      }
    }
  }

  private Value at(int k) {
    List<Value> row = new ArrayList<>();
    if (last != null) {
      write(last, row);
    }
    return k >= 0 && k < row.size() ? row.get(k) : null;
  }

  int value(int k) {
    Value value = at(k);
    return value == null ? -1 : value.code;
  }

  int number(int k) {
    Value value = at(k);
    return value == null ? 0 : value.number;
  }
}
