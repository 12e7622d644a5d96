import java.util.Arrays;

/**
 * A checker and evaluator for a small language with expressions that know what type their value
 * has. Types and terms are built call by call; a program is a function and a main term.
 *
 * <p>All rows are made with the object and used again, so that no later call makes anything.
 */
public final class RigidCases {
  public static final int BAD = -1;
  public static final int ROOM = -2;

  private static final int NUMBER = 0;
  private static final int TRUTH = 1;
  private static final int VARIABLE = 2;
  private static final int ADD = 3;
  private static final int LESS = 4;
  private static final int IF = 5;
  private static final int BOTH = 6;
  private static final int FIRST = 7;
  private static final int SECOND = 8;
  private static final int CALL = 9;
  private static final int AS = 10;
  private static final int LIT = 11;
  private static final int BIT = 12;
  private static final int SUM = 13;
  private static final int WHEN = 14;
  private static final int DUO = 15;
  private static final int LEFT = 16;
  private static final int CASES = 17;

  /** How many parts each operation takes; the cases of CASES come on top of its subject. */
  private static final int[] PARTS = {0, 0, 0, 2, 2, 3, 2, 1, 1, 1, 1, 1, 1, 2, 3, 2, 1, 1};

  private static final int INT = 0;
  private static final int BOOL = 1;

  private static final int KIND_PAIR = 0;
  private static final int KIND_EXP = 1;
  private static final int KIND_NAME = 2;
  private static final int KIND_INT = 3;
  private static final int KIND_BOOL = 4;

  private static final int NONE = -1;

  private static final int MOST_TYPES = 24;
  private static final int HIGHEST_TYPE = 4;
  private static final int MOST_NAMES = 3;
  private static final int MOST_VARIABLES = 12;
  private static final int ALL_MAKERS = 63;
  private static final int MOST_TERMS = 12;
  private static final int LARGEST_TERM = 40;
  private static final int DEEPEST_TERM = 6;
  private static final int MOST_STEPS = 600;
  private static final int MOST_BODIES = 4;
  private static final int LONGEST_ROW = 200;

  /** A CASES in a case in a case, as deep as terms go, each with at most three variables more. */
  private static final int MOST_CASE_VARIABLES = 3 * (DEEPEST_TERM - 1);

  private final Types types;
  private final Terms terms;
  private final Checker checker;
  private final Evaluator evaluator;
  private int result;
  private int mainType;

  public RigidCases() {
    types = new Types();
    terms = new Terms();
    checker = new Checker(types, terms);
    evaluator = new Evaluator(terms);
    result = INT;
    mainType = INT;
  }

  public int type(int kind, int a, int b) {
    if (!types.canBeMade(kind, a, b)) {
      return BAD;
    }
    int second = kind == KIND_PAIR ? b : 0;
    int known = types.seek(kind, a, second);
    if (known != NONE) {
      return known;
    }
    if (types.count() >= MOST_TYPES || types.heightWith(kind, a, second) > HIGHEST_TYPE) {
      return ROOM;
    }
    return types.seekOrPut(kind, a, second);
  }

  public int make(int op, int a) {
    if (op < NUMBER || op > CASES || !isAsSaid(op, a) || terms.onStack() < partsOf(op, a)) {
      return BAD;
    }
    return terms.put(op, a);
  }

  public int height() {
    return terms.onStack();
  }

  public int drop() {
    if (terms.onStack() == 0) {
      return BAD;
    }
    terms.dropLast();
    return terms.onStack();
  }

  public boolean function(int result) {
    if (terms.onStack() == 0 || !types.has(result)) {
      return false;
    }
    terms.takeBody();
    this.result = result;
    return true;
  }

  public boolean main(int type) {
    if (terms.onStack() == 0 || !types.has(type)) {
      return false;
    }
    terms.takeMain();
    mainType = type;
    return true;
  }

  public int check() {
    if (!checker.bodyIsRight(result)) {
      return 1;
    }
    return checker.mainIsRight(mainType, result) ? 0 : 2;
  }

  public int evaluate() {
    return evaluator.evaluateMain();
  }

  public int steps() {
    return evaluator.stepsMade();
  }

  public int value(int k) {
    return evaluator.shapeAt(k);
  }

  public int number(int k) {
    return evaluator.numberAt(k);
  }

  private boolean isAsSaid(int op, int a) {
    switch (op) {
      case TRUTH:
        return a == 0 || a == 1;
      case VARIABLE:
        return a >= 0 && a < MOST_VARIABLES;
      case AS:
        return types.has(a);
      case CASES:
        return a >= 1 && a <= ALL_MAKERS;
      default:
        return true;
    }
  }

  private static int partsOf(int op, int a) {
    if (op < NUMBER || op > CASES) {
      return 0;
    }
    return op == CASES ? PARTS[op] + Integer.bitCount(a) : PARTS[op];
  }

  private static boolean isMaker(int op) {
    return op >= LIT && op <= LEFT;
  }

  /**
   * The types, each built alike only once. The checker's own types stand behind the lasting ones
   * and are forgotten when it is done: they may be more, and higher, than the document's limits.
   */
  private static final class Types {
    /** No term makes the checker build more: CASES with its variables (a CALL builds 7). */
    private static final int MOST_FOR_A_TERM = 11;

    /** What the variable of the body needs: NAME 0 and the EXP of it. */
    private static final int FOR_THE_BODY = 2;

    private static final int PLACES =
        MOST_TYPES + FOR_THE_BODY + MOST_FOR_A_TERM * LARGEST_TERM;

    private final int[] kinds = new int[PLACES];
    private final int[] firsts = new int[PLACES];
    private final int[] seconds = new int[PLACES];
    private int count;

    Types() {
      kinds[INT] = KIND_INT;
      kinds[BOOL] = KIND_BOOL;
      count = 2;
    }

    int count() {
      return count;
    }

    boolean has(int type) {
      return type >= 0 && type < count;
    }

    int kindOf(int type) {
      return has(type) ? kinds[type] : NONE;
    }

    int firstOf(int type) {
      return has(type) ? firsts[type] : NONE;
    }

    int secondOf(int type) {
      return has(type) ? seconds[type] : NONE;
    }

    boolean canBeMade(int kind, int a, int b) {
      switch (kind) {
        case KIND_PAIR:
          return has(a) && has(b);
        case KIND_EXP:
          return has(a);
        case KIND_NAME:
          return a >= 0 && a < MOST_NAMES;
        default:
          return false;
      }
    }

    /** The height of what is built of lasting types. */
    int heightWith(int kind, int a, int b) {
      switch (kind) {
        case KIND_PAIR:
          return 1 + Math.max(heightOf(a, HIGHEST_TYPE), heightOf(b, HIGHEST_TYPE));
        case KIND_EXP:
          return 1 + heightOf(a, HIGHEST_TYPE);
        default:
          return 1;
      }
    }

    private int heightOf(int type, int levels) {
      if (levels == 0) {
        return 0;
      }
      switch (kindOf(type)) {
        case KIND_PAIR:
          return 1
              + Math.max(
                  heightOf(firstOf(type), levels - 1), heightOf(secondOf(type), levels - 1));
        case KIND_EXP:
          return 1 + heightOf(firstOf(type), levels - 1);
        default:
          return 1;
      }
    }

    int seek(int kind, int a, int b) {
      for (int type = 0; type < count; type++) {
        if (kinds[type] == kind && firsts[type] == a && seconds[type] == b) {
          return type;
        }
      }
      return NONE;
    }

    int seekOrPut(int kind, int a, int b) {
      int known = seek(kind, a, b);
      if (known != NONE || count >= PLACES) {
        return known;
      }
      kinds[count] = kind;
      firsts[count] = a;
      seconds[count] = b;
      count++;
      return count - 1;
    }

    /** NONE, a wrong term's type, makes every type that is built of it NONE too. */
    int pairOf(int a, int b) {
      return has(a) && has(b) ? seekOrPut(KIND_PAIR, a, b) : NONE;
    }

    int expOf(int a) {
      return has(a) ? seekOrPut(KIND_EXP, a, 0) : NONE;
    }

    int nameOf(int name) {
      return seekOrPut(KIND_NAME, name, 0);
    }

    /** Its own place behind the document's names makes the name unlike all others. */
    int newName() {
      return seekOrPut(KIND_NAME, MOST_NAMES + count, 0);
    }

    void forgetFrom(int lasting) {
      if (has(lasting)) {
        count = lasting;
      }
    }
  }

  /**
   * The terms on the stack, the body and the main term. A term stands right behind its parts, so
   * that making one is putting one entry behind the terms of the stack.
   */
  private static final class Terms {
    private static final int BODY_START = MOST_TERMS * LARGEST_TERM;
    private static final int MAIN_START = BODY_START + LARGEST_TERM;
    private static final int PLACES = MAIN_START + LARGEST_TERM;

    private final int[] ops = new int[PLACES];
    private final int[] arguments = new int[PLACES];
    private final int[] sizes = new int[PLACES];
    private final int[] depths = new int[MOST_TERMS];
    private int used;
    private int onStack;
    private int body;
    private int mainTerm;

    Terms() {
      body = BODY_START;
      mainTerm = MAIN_START;
      ops[body] = NUMBER;
      ops[mainTerm] = NUMBER;
      sizes[body] = 1;
      sizes[mainTerm] = 1;
    }

    int onStack() {
      return onStack;
    }

    int body() {
      return body;
    }

    int mainTerm() {
      return mainTerm;
    }

    int opOf(int term) {
      return isPlace(term) ? ops[term] : NONE;
    }

    int argumentOf(int term) {
      return isPlace(term) ? arguments[term] : NONE;
    }

    /** The part k of a term: the parts behind it lie between it and the term. */
    int part(int term, int k) {
      int place = term - 1;
      for (int later = partsOf(opOf(term), argumentOf(term)) - 1; later > k; later--) {
        place -= sizeOf(place);
      }
      return place;
    }

    /** The part of a CASES for a maker, NONE if it has none. */
    int caseFor(int term, int maker) {
      int set = argumentOf(term);
      int bit = 1 << (maker - LIT);
      if (!isMaker(maker) || (set & bit) == 0) {
        return NONE;
      }
      return part(term, 1 + Integer.bitCount(set & (bit - 1)));
    }

    /** Puts a term in place of its parts, which have to be there: its size, or ROOM. */
    int put(int op, int a) {
      int parts = partsOf(op, a);
      int size = 1;
      for (int k = 0; k < parts; k++) {
        size += sizeOf(used - size);
      }
      int depth = 1 + deepestOfLast(parts);
      int at = onStack - parts;
      boolean fits = size <= LARGEST_TERM && depth <= DEEPEST_TERM && used < BODY_START;
      if (at < 0 || at >= MOST_TERMS || !fits) {
        return ROOM;
      }
      ops[used] = op;
      arguments[used] = a;
      sizes[used] = size;
      depths[at] = depth;
      used++;
      onStack = at + 1;
      return size;
    }

    private int deepestOfLast(int parts) {
      int deepest = 0;
      for (int at = Math.max(0, onStack - parts); at < onStack; at++) {
        deepest = Math.max(deepest, depths[at]);
      }
      return deepest;
    }

    void dropLast() {
      if (onStack > 0 && used > 0) {
        used -= sizeOf(used - 1);
        onStack--;
      }
    }

    void takeBody() {
      body = moveLast(BODY_START);
    }

    void takeMain() {
      mainTerm = moveLast(MAIN_START);
    }

    private int moveLast(int start) {
      int size = sizeOf(used - 1);
      int from = used - size;
      System.arraycopy(ops, from, ops, start, size);
      System.arraycopy(arguments, from, arguments, start, size);
      System.arraycopy(sizes, from, sizes, start, size);
      dropLast();
      return start + size - 1;
    }

    private int sizeOf(int term) {
      return isPlace(term) ? sizes[term] : 0;
    }

    private static boolean isPlace(int term) {
      return term >= 0 && term < PLACES;
    }
  }

  /**
   * Finds and checks types. An equation is always with INT, BOOL or a pair of new names, so it
   * either clashes in kind, or tells what one name is, or tells nothing but what the new names
   * are. So equations are held as what names are told to be, and no type can come to be a part of
   * itself.
   */
  private static final class Checker {
    private static final int MOST_SEEN = 1 + MOST_CASE_VARIABLES;

    /**
     * Above all heights that types can come to: a CALL adds 2, a case 1, and as terms have at most
     * 6 levels, what is found of the variables of a case in a case stays below 35.
     */
    private static final int HIGHEST_FOUND = 40;

    private final Types types;
    private final Terms terms;
    private final int[] told = new int[Types.PLACES];
    private final int[] environment = new int[MOST_SEEN];
    private int variables;
    private int result;

    Checker(Types types, Terms terms) {
      this.types = types;
      this.terms = terms;
      Arrays.fill(told, NONE);
    }

    boolean bodyIsRight(int result) {
      int lasting = types.count();
      this.result = result;
      variables = 0;
      addVariable(types.expOf(types.nameOf(0)));
      boolean right = isA(terms.body(), result);
      types.forgetFrom(lasting);
      return right;
    }

    boolean mainIsRight(int type, int result) {
      int lasting = types.count();
      this.result = result;
      variables = 0;
      boolean right = isA(terms.mainTerm(), type);
      types.forgetFrom(lasting);
      return right;
    }

    private boolean isA(int term, int wanted) {
      switch (terms.opOf(term)) {
        case IF:
          return isA(terms.part(term, 0), BOOL)
              && isA(terms.part(term, 1), wanted)
              && isA(terms.part(term, 2), wanted);
        case CASES:
          return areCasesA(term, wanted);
        default:
          return areEqual(find(term), wanted, HIGHEST_FOUND);
      }
    }

    private boolean areBothA(int term, int wanted) {
      return isA(terms.part(term, 0), wanted) && isA(terms.part(term, 1), wanted);
    }

    private boolean areCasesA(int term, int wanted) {
      int inside = insideOf(findPart(term, 0));
      if (inside == NONE) {
        return false;
      }
      for (int maker = LIT; maker <= LEFT; maker++) {
        if (!isCaseA(maker, terms.caseFor(term, maker), asTold(inside), wanted)) {
          return false;
        }
      }
      return true;
    }

    private boolean isCaseA(int maker, int part, int inside, int wanted) {
      int equated = equatedBy(maker, inside);
      boolean isOpenName = types.kindOf(inside) == KIND_NAME;
      if (!isOpenName && types.kindOf(inside) != types.kindOf(equated)) {
        // The case is closed, so it doesn't matter whether its part is there.
        return true;
      }
      if (part == NONE || equated == NONE) {
        return false;
      }
      int variablesBefore = variables;
      addVariablesOf(maker, inside, equated);
      if (isOpenName && equated != inside) {
        told[inside] = equated;
      }
      boolean fits = isA(part, wanted);
      told[inside] = NONE;
      variables = variablesBefore;
      return fits;
    }

    /** What the maker says that the inside is; the inside itself, when it says nothing. */
    private int equatedBy(int maker, int inside) {
      switch (maker) {
        case LIT:
        case SUM:
          return INT;
        case BIT:
          return BOOL;
        case DUO:
          // The parts of a pair serve as the new names, which would be equal to them.
          return types.kindOf(inside) == KIND_PAIR
              ? inside
              : types.pairOf(types.newName(), types.newName());
        default:
          return inside;
      }
    }

    private void addVariablesOf(int maker, int inside, int equated) {
      switch (maker) {
        case LIT:
          addVariable(INT);
          break;
        case BIT:
          addVariable(BOOL);
          break;
        case SUM:
          addVariable(types.expOf(INT));
          addVariable(types.expOf(INT));
          break;
        case WHEN:
          addVariable(types.expOf(BOOL));
          addVariable(types.expOf(inside));
          addVariable(types.expOf(inside));
          break;
        case DUO:
          addVariable(types.expOf(types.firstOf(equated)));
          addVariable(types.expOf(types.secondOf(equated)));
          break;
        default:
          addVariable(types.expOf(types.pairOf(inside, types.newName())));
          break;
      }
    }

    private void addVariable(int type) {
      if (variables < MOST_SEEN) {
        environment[variables] = type;
        variables++;
      }
    }

    /** The type of a term, NONE if it is wrong. */
    private int find(int term) {
      switch (terms.opOf(term)) {
        case NUMBER:
          return INT;
        case TRUTH:
          return BOOL;
        case VARIABLE:
          return variableAt(terms.argumentOf(term));
        case ADD:
          return areBothA(term, INT) ? INT : NONE;
        case LESS:
          return areBothA(term, INT) ? BOOL : NONE;
        case BOTH:
          return types.pairOf(findPart(term, 0), findPart(term, 1));
        case FIRST:
          return firstIn(findPart(term, 0));
        case SECOND:
          return secondIn(findPart(term, 0));
        case CALL:
          return resultAt(result, insideOf(findPart(term, 0)), HIGHEST_TYPE);
        case AS:
          return isA(terms.part(term, 0), terms.argumentOf(term))
              ? terms.argumentOf(term)
              : NONE;
        default:
          return findMade(term);
      }
    }

    private int findPart(int term, int k) {
      return find(terms.part(term, k));
    }

    /** The type of what a maker makes; NONE for IF and CASES, which are checked alone. */
    private int findMade(int term) {
      switch (terms.opOf(term)) {
        case LIT:
          return isA(terms.part(term, 0), INT) ? types.expOf(INT) : NONE;
        case BIT:
          return isA(terms.part(term, 0), BOOL) ? types.expOf(BOOL) : NONE;
        case SUM:
          return areBothA(term, types.expOf(INT)) ? types.expOf(INT) : NONE;
        case WHEN:
          return findWhen(term);
        case DUO:
          return types.expOf(
              types.pairOf(insideOf(findPart(term, 0)), insideOf(findPart(term, 1))));
        case LEFT:
          return types.expOf(firstIn(insideOf(findPart(term, 0))));
        default:
          return NONE;
      }
    }

    private int findWhen(int term) {
      int made = types.expOf(insideOf(findPart(term, 1)));
      if (made == NONE) {
        return NONE;
      }
      boolean fits =
          isA(terms.part(term, 0), types.expOf(BOOL)) && isA(terms.part(term, 2), made);
      return fits ? made : NONE;
    }

    private int variableAt(int k) {
      return k >= 0 && k < variables ? environment[k] : NONE;
    }

    private int insideOf(int type) {
      int plain = asTold(type);
      return types.kindOf(plain) == KIND_EXP ? types.firstOf(plain) : NONE;
    }

    private int firstIn(int type) {
      int plain = asTold(type);
      return types.kindOf(plain) == KIND_PAIR ? types.firstOf(plain) : NONE;
    }

    private int secondIn(int type) {
      int plain = asTold(type);
      return types.kindOf(plain) == KIND_PAIR ? types.secondOf(plain) : NONE;
    }

    /** What a name was told to be is never a name, so one look is enough. */
    private int asTold(int type) {
      return types.has(type) && told[type] != NONE ? told[type] : type;
    }

    /** A type with another in place of NAME 0, whatever NAME 0 was told to be. */
    private int resultAt(int type, int inside, int levels) {
      if (inside == NONE || levels == 0) {
        return NONE;
      }
      switch (types.kindOf(type)) {
        case KIND_PAIR:
          return types.pairOf(
              resultAt(types.firstOf(type), inside, levels - 1),
              resultAt(types.secondOf(type), inside, levels - 1));
        case KIND_EXP:
          return types.expOf(resultAt(types.firstOf(type), inside, levels - 1));
        case KIND_NAME:
          return types.firstOf(type) == 0 ? inside : type;
        default:
          return type;
      }
    }

    private boolean areEqual(int a, int b, int levels) {
      if (a == NONE || b == NONE || levels == 0) {
        return false;
      }
      int x = asTold(a);
      int y = asTold(b);
      if (x == y) {
        return true;
      }
      if (types.kindOf(x) != types.kindOf(y)) {
        return false;
      }
      switch (types.kindOf(x)) {
        case KIND_PAIR:
          return areEqual(types.firstOf(x), types.firstOf(y), levels - 1)
              && areEqual(types.secondOf(x), types.secondOf(y), levels - 1);
        case KIND_EXP:
          return areEqual(types.firstOf(x), types.firstOf(y), levels - 1);
        default:
          return false;
      }
    }
  }

  /** The values of one evaluating, at most one for each of its steps, and the last one written. */
  private static final class Values {
    private static final int A_NUMBER = 1000;
    private static final int A_TRUTH = 1001;
    private static final int AN_UNTRUTH = 1002;
    private static final int A_PAIR = 1003;
    private static final int MADE = 1000;

    /** Each value that is written takes its place and leaves at most three parts there. */
    private static final int MOST_WAITING = 1 + 2 * LONGEST_ROW;

    private final int[] shapes = new int[MOST_STEPS];
    private final int[] firsts = new int[MOST_STEPS];
    private final int[] seconds = new int[MOST_STEPS];
    private final int[] thirds = new int[MOST_STEPS];
    private final int[] row = new int[LONGEST_ROW];
    private final int[] waiting = new int[MOST_WAITING];
    private int count;
    private int written;
    private int waits;

    void clear() {
      count = 0;
      written = 0;
    }

    int ofNumber(int number) {
      return put(A_NUMBER, number, NONE, NONE);
    }

    int ofTruth(boolean truth) {
      return put(truth ? A_TRUTH : AN_UNTRUTH, NONE, NONE, NONE);
    }

    int ofParts(int op, int first, int second, int third) {
      return put(op == BOTH ? A_PAIR : MADE + op, first, second, third);
    }

    private int put(int shape, int first, int second, int third) {
      if (count >= MOST_STEPS) {
        return NONE;
      }
      shapes[count] = shape;
      firsts[count] = first;
      seconds[count] = second;
      thirds[count] = third;
      count++;
      return count - 1;
    }

    boolean isNumber(int value) {
      return shapeOf(value) == A_NUMBER;
    }

    boolean isTruth(int value) {
      return shapeOf(value) == A_TRUTH || shapeOf(value) == AN_UNTRUTH;
    }

    boolean isTrue(int value) {
      return shapeOf(value) == A_TRUTH;
    }

    boolean isPair(int value) {
      return shapeOf(value) == A_PAIR;
    }

    boolean isMade(int value) {
      return isMaker(shapeOf(value) - MADE);
    }

    int makerOf(int value) {
      return shapeOf(value) - MADE;
    }

    int numberOf(int value) {
      return isNumber(value) ? firsts[value] : 0;
    }

    int partCount(int value) {
      if (isPair(value)) {
        return 2;
      }
      return isMade(value) ? PARTS[makerOf(value)] : 0;
    }

    int part(int value, int k) {
      if (k >= partCount(value)) {
        return NONE;
      }
      return k == 0 ? firsts[value] : k == 1 ? seconds[value] : thirds[value];
    }

    private int shapeOf(int value) {
      return value >= 0 && value < count ? shapes[value] : NONE;
    }

    /** Parts wait in turned order; a value with very many is written as far as it is asked for. */
    void write(int value) {
      written = 0;
      waits = 0;
      await(value);
      while (waits > 0 && written < LONGEST_ROW) {
        waits--;
        int next = waiting[waits];
        row[written] = next;
        written++;
        for (int k = partCount(next) - 1; k >= 0; k--) {
          await(part(next, k));
        }
      }
    }

    private void await(int value) {
      if (waits < MOST_WAITING) {
        waiting[waits] = value;
        waits++;
      }
    }

    int shapeAt(int k) {
      return k >= 0 && k < written ? shapeOf(row[k]) : BAD;
    }

    int numberAt(int k) {
      return k >= 0 && k < written ? numberOf(row[k]) : 0;
    }
  }

  /** Evaluates without types. What a term comes to is a value's number, or SPENT or STUCK. */
  private static final class Evaluator {
    private static final int SPENT = -1;
    private static final int STUCK = -2;

    private static final int ANY = 0;
    private static final int WANT_NUMBER = 1;
    private static final int WANT_TRUTH = 2;
    private static final int WANT_PAIR = 3;
    private static final int WANT_MADE = 4;

    private static final int MOST_SEEN =
        MOST_CASE_VARIABLES + MOST_BODIES * (1 + MOST_CASE_VARIABLES);

    private final Terms terms;
    private final Values values = new Values();
    private final int[] environment = new int[MOST_SEEN];
    private int base;
    private int top;
    private int bodies;
    private int steps;

    Evaluator(Terms terms) {
      this.terms = terms;
    }

    int evaluateMain() {
      values.clear();
      base = 0;
      top = 0;
      bodies = 0;
      steps = 0;
      int outcome = run(terms.mainTerm());
      if (outcome == SPENT) {
        return 1;
      }
      if (outcome == STUCK) {
        return 2;
      }
      values.write(outcome);
      return 0;
    }

    int stepsMade() {
      return steps;
    }

    int shapeAt(int k) {
      return values.shapeAt(k);
    }

    int numberAt(int k) {
      return values.numberAt(k);
    }

    private int run(int term) {
      if (steps >= MOST_STEPS) {
        return SPENT;
      }
      steps++;
      int op = terms.opOf(term);
      switch (op) {
        case NUMBER:
          return values.ofNumber(terms.argumentOf(term));
        case TRUTH:
          return values.ofTruth(terms.argumentOf(term) == 1);
        case VARIABLE:
          return runVariable(terms.argumentOf(term));
        case ADD:
        case LESS:
          return runNumbers(term);
        case IF:
          return runIf(term);
        case FIRST:
          return runPartOfPair(term, 0);
        case SECOND:
          return runPartOfPair(term, 1);
        case CALL:
          return runCall(term);
        case AS:
          return runPart(term, 0, ANY);
        case CASES:
          return runCases(term);
        default:
          return op == BOTH || isMaker(op) ? runParts(term, wantedBy(op)) : STUCK;
      }
    }

    private static int wantedBy(int op) {
      switch (op) {
        case BOTH:
          return ANY;
        case LIT:
          return WANT_NUMBER;
        case BIT:
          return WANT_TRUTH;
        default:
          return WANT_MADE;
      }
    }

    private boolean isWanted(int value, int wanted) {
      switch (wanted) {
        case WANT_NUMBER:
          return values.isNumber(value);
        case WANT_TRUTH:
          return values.isTruth(value);
        case WANT_PAIR:
          return values.isPair(value);
        case WANT_MADE:
          return values.isMade(value);
        default:
          return true;
      }
    }

    private int runPart(int term, int k, int wanted) {
      int value = run(terms.part(term, k));
      return value < 0 || isWanted(value, wanted) ? value : STUCK;
    }

    private int runVariable(int k) {
      return k >= 0 && k < top - base ? environment[base + k] : STUCK;
    }

    private int runNumbers(int term) {
      int first = runPart(term, 0, WANT_NUMBER);
      if (first < 0) {
        return first;
      }
      int second = runPart(term, 1, WANT_NUMBER);
      if (second < 0) {
        return second;
      }
      int x = values.numberOf(first);
      int y = values.numberOf(second);
      return terms.opOf(term) == ADD ? values.ofNumber(x + y) : values.ofTruth(x < y);
    }

    private int runIf(int term) {
      int truth = runPart(term, 0, WANT_TRUTH);
      if (truth < 0) {
        return truth;
      }
      return runPart(term, values.isTrue(truth) ? 1 : 2, ANY);
    }

    private int runPartOfPair(int term, int k) {
      int pair = runPart(term, 0, WANT_PAIR);
      return pair < 0 ? pair : values.part(pair, k);
    }

    /** BOTH and the makers: one value of one to three. */
    private int runParts(int term, int wanted) {
      int op = terms.opOf(term);
      int parts = partsOf(op, 0);
      int first = runPart(term, 0, wanted);
      if (first < 0 || parts == 1) {
        return first < 0 ? first : values.ofParts(op, first, NONE, NONE);
      }
      int second = runPart(term, 1, wanted);
      if (second < 0 || parts == 2) {
        return second < 0 ? second : values.ofParts(op, first, second, NONE);
      }
      int third = runPart(term, 2, wanted);
      return third < 0 ? third : values.ofParts(op, first, second, third);
    }

    /** The body sees its own variable alone: those of the caller lie below its base. */
    private int runCall(int term) {
      int argument = runPart(term, 0, ANY);
      if (argument < 0) {
        return argument;
      }
      if (bodies >= MOST_BODIES) {
        return SPENT;
      }
      int baseBefore = base;
      int topBefore = top;
      base = top;
      addVariable(argument);
      bodies++;
      int value = run(terms.body());
      bodies--;
      base = baseBefore;
      top = topBefore;
      return value;
    }

    private int runCases(int term) {
      int subject = runPart(term, 0, WANT_MADE);
      if (subject < 0) {
        return subject;
      }
      int part = terms.caseFor(term, values.makerOf(subject));
      if (part == NONE) {
        return STUCK;
      }
      int topBefore = top;
      for (int k = 0; k < values.partCount(subject); k++) {
        addVariable(values.part(subject, k));
      }
      int value = run(part);
      top = topBefore;
      return value;
    }

    private void addVariable(int value) {
      if (top < MOST_SEEN) {
        environment[top] = value;
        top++;
      }
    }
  }
}
