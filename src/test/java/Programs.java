import java.util.ArrayList;
import java.util.List;

/**
 * Random programs, most of them nearly well typed: terms are made for a wanted type, and now and
 * then spoilt. Types are trees here, and what a case tells is put in place of the name at once.
 */
final class Programs {
  /** A type: a kind as in the document, 3 INT, 4 BOOL. */
  record Type(int kind, int name, Type a, Type b) {}

  /** A term, with what it was made for in mind alone. */
  record Term(int op, int a, List<Term> parts) {}

  private static final Type INT = new Type(3, 0, null, null);
  private static final Type BOOL = new Type(4, 0, null, null);

  private final List<Type> lasting = new ArrayList<>();
  private long seed;
  private int names = 3;
  private int spoilt;
  private Type result;

  Programs(long seed) {
    this.seed = seed * 7919 + 12345;
    lasting.add(INT);
    lasting.add(BOOL);
  }

  int below(int bound) {
    seed = seed * 6364136223846793005L + 1442695040888963407L;
    return (int) ((seed >>> 33) % bound);
  }

  private boolean oneIn(int n) {
    return below(n) == 0;
  }

  /** Of 1000, how often a term is spoilt. */
  void spoil(int ofThousand) {
    spoilt = ofThousand;
  }

  void made(int number, int kind, int a, int b) {
    if (number == lasting.size()) {
      lasting.add(
          switch (kind) {
            case 0 -> pair(lasting.get(a), lasting.get(b));
            case 1 -> exp(lasting.get(a));
            default -> name(a);
          });
    }
  }

  int types() {
    return lasting.size();
  }

  void result(int type) {
    result = lasting.get(type);
  }

  Term body(int type, int depth) {
    return checked(lasting.get(type), List.of(exp(name(0))), depth);
  }

  Term main(int type, int depth) {
    return checked(lasting.get(type), List.of(), depth);
  }

  private static Type pair(Type a, Type b) {
    return new Type(0, 0, a, b);
  }

  private static Type exp(Type a) {
    return new Type(1, 0, a, null);
  }

  private static Type name(int name) {
    return new Type(2, name, null, null);
  }

  private static Type replaced(Type type, int name, Type by) {
    return switch (type.kind) {
      case 0 -> pair(replaced(type.a, name, by), replaced(type.b, name, by));
      case 1 -> exp(replaced(type.a, name, by));
      case 2 -> type.name == name ? by : type;
      default -> type;
    };
  }

  private static List<Type> replaced(List<Type> types, int name, Type by) {
    List<Type> all = new ArrayList<>();
    for (Type type : types) {
      all.add(replaced(type, name, by));
    }
    return all;
  }

  private static Term term(int op, int a, Term... parts) {
    return new Term(op, a, List.of(parts));
  }

  private Term checked(Type wanted, List<Type> environment, int depth) {
    if (below(1000) < spoilt) {
      return anything(depth);
    }
    if (depth >= 2 && oneIn(8)) {
      return term(
          5,
          0,
          checked(BOOL, environment, depth - 1),
          checked(wanted, environment, depth - 1),
          checked(wanted, environment, depth - 1));
    }
    if (depth >= 2 && oneIn(depth >= 4 ? 2 : 4)) {
      return cases(wanted, environment, depth);
    }
    return found(wanted, environment, depth);
  }

  private Term anything(int depth) {
    int op = depth <= 1 ? below(3) : below(18);
    int a =
        switch (op) {
          case 0 -> below(5);
          case 1 -> below(2);
          case 2 -> below(oneIn(9) ? 12 : 4);
          case 10 -> below(lasting.size());
          case 17 -> 1 + below(63);
          default -> 0;
        };
    List<Term> parts = new ArrayList<>();
    for (int k = 0; k < Reference.partsOf(op, a); k++) {
      parts.add(anything(Math.min(depth - 1, 3)));
    }
    return new Term(op, a, parts);
  }

  /** A subject that is a variable, mostly, or a literal or a call. */
  private Term cases(Type wanted, List<Type> environment, int depth) {
    List<Integer> exps = new ArrayList<>();
    for (int k = 0; k < environment.size() && k < 12; k++) {
      if (environment.get(k).kind == 1) {
        exps.add(k);
      }
    }
    Type inside;
    Term subject;
    if (!exps.isEmpty() && !oneIn(5)) {
      int k = exps.get(below(exps.size()));
      subject = term(2, k);
      inside = environment.get(k).a;
      if (depth >= 4 && result.kind == 1 && oneIn(4)) {
        subject = term(9, 0, subject);
        inside = replaced(result, 0, inside).a;
      }
    } else {
      inside = lasting.get(below(lasting.size()));
      subject = found(exp(inside), environment, depth - 1);
    }
    return casesOf(subject, inside, wanted, environment, depth);
  }

  private Term casesOf(
      Term subject, Type inside, Type wanted, List<Type> environment, int depth) {
    List<Term> parts = new ArrayList<>();
    parts.add(subject);
    int set = 0;
    for (int maker = 0; maker < 6; maker++) {
      Term part = casePart(maker, inside, wanted, environment, depth - 1);
      boolean there = part == null ? oneIn(6) : below(1000) >= spoilt;
      if (there) {
        set |= 1 << maker;
        parts.add(part == null ? anything(Math.min(depth - 1, 2)) : part);
      }
    }
    return set == 0 ? subject : new Term(17, set, parts);
  }

  /** A part for a maker, null if the case is closed. */
  private Term casePart(int maker, Type e, Type wanted, List<Type> environment, int depth) {
    boolean isName = e.kind == 2;
    switch (maker) {
      case 0:
        return isName || e.kind == 3
            ? told(e, INT, List.of(INT), wanted, environment, depth)
            : null;
      case 1:
        return isName || e.kind == 4
            ? told(e, BOOL, List.of(BOOL), wanted, environment, depth)
            : null;
      case 2:
        return isName || e.kind == 3
            ? told(e, INT, List.of(exp(INT), exp(INT)), wanted, environment, depth)
            : null;
      case 3:
        return told(e, e, List.of(exp(BOOL), exp(e), exp(e)), wanted, environment, depth);
      case 4:
        if (!isName && e.kind != 0) {
          return null;
        }
        Type both = isName ? pair(name(names++), name(names++)) : e;
        return told(e, both, List.of(exp(both.a), exp(both.b)), wanted, environment, depth);
      default:
        return told(e, e, List.of(exp(pair(e, name(names++)))), wanted, environment, depth);
    }
  }

  private Term told(
      Type e, Type is, List<Type> more, Type wanted, List<Type> environment, int depth) {
    List<Type> all = new ArrayList<>(environment);
    all.addAll(more);
    if (e.kind != 2) {
      return checked(wanted, all, depth);
    }
    return checked(replaced(wanted, e.name, is), replaced(all, e.name, is), depth);
  }

  private Term found(Type wanted, List<Type> environment, int depth) {
    Term variable = variable(wanted, environment);
    if (variable != null && (depth <= 1 || !oneIn(3))) {
      return variable;
    }
    if (depth <= 1) {
      int leaf = wanted.kind == 3 ? 0 : wanted.kind == 4 ? 1 : 2;
      return term(leaf, below(leaf == 1 ? 2 : 4));
    }
    if (below(1000) < spoilt) {
      return anything(depth);
    }
    if (oneIn(7) && lasting.contains(wanted)) {
      return term(10, lasting.indexOf(wanted), checked(wanted, environment, depth - 1));
    }
    if (oneIn(8)) {
      Type other = lasting.get(below(lasting.size()));
      boolean first = oneIn(2);
      Term whole = found(first ? pair(wanted, other) : pair(other, wanted), environment, depth - 1);
      return term(first ? 7 : 8, 0, whole);
    }
    if (wanted.kind == 2 || oneIn(5)) {
      Type at = calledAt(result, wanted);
      if (at != null) {
        return term(9, 0, found(exp(at), environment, depth - 1));
      }
    }
    return built(wanted, environment, depth);
  }

  /** What NAME 0 has to be for the result to be as wanted, by its first parts; null if unknown. */
  private Type calledAt(Type from, Type wanted) {
    if (from.kind == 2 && from.name == 0) {
      return wanted;
    }
    if (from.equals(wanted)) {
      return lasting.get(below(lasting.size()));
    }
    return from.kind == wanted.kind && from.kind <= 1 ? calledAt(from.a, wanted.a) : null;
  }

  private Term variable(Type wanted, List<Type> environment) {
    List<Integer> fitting = new ArrayList<>();
    for (int k = 0; k < environment.size() && k < 12; k++) {
      if (environment.get(k).equals(wanted)) {
        fitting.add(k);
      }
    }
    return fitting.isEmpty() ? null : term(2, fitting.get(below(fitting.size())));
  }

  private Term built(Type wanted, List<Type> environment, int depth) {
    switch (wanted.kind) {
      case 0:
        return term(
            6, 0, found(wanted.a, environment, depth - 1), found(wanted.b, environment, depth - 1));
      case 1:
        return builtExp(wanted, environment, depth);
      case 3:
        return oneIn(2)
            ? term(0, below(9))
            : twoChecked(3, INT, environment, depth);
      case 4:
        return oneIn(2)
            ? term(1, below(2))
            : twoChecked(4, INT, environment, depth);
      default:
        return anything(depth);
    }
  }

  private Term twoChecked(int op, Type type, List<Type> environment, int depth) {
    return term(
        op, 0, checked(type, environment, depth - 1), checked(type, environment, depth - 1));
  }

  private Term builtExp(Type wanted, List<Type> environment, int depth) {
    if (oneIn(5)) {
      return term(
          14,
          0,
          checked(exp(BOOL), environment, depth - 1),
          found(wanted, environment, depth - 1),
          checked(wanted, environment, depth - 1));
    }
    if (oneIn(6)) {
      Type other = lasting.get(below(lasting.size()));
      return term(16, 0, found(exp(pair(wanted.a, other)), environment, depth - 1));
    }
    switch (wanted.a.kind) {
      case 0:
        return term(
            15,
            0,
            found(exp(wanted.a.a), environment, depth - 1),
            found(exp(wanted.a.b), environment, depth - 1));
      case 3:
        return depth >= 3 && oneIn(2)
            ? twoChecked(13, wanted, environment, depth)
            : term(11, 0, checked(INT, environment, depth - 1));
      case 4:
        return term(12, 0, checked(BOOL, environment, depth - 1));
      default:
        return oneIn(2)
            ? term(16, 0, found(exp(pair(wanted.a, INT)), environment, depth - 1))
            : anything(depth);
    }
  }
}
