/** Texts of terms with a wanted size and depth, all of NUMBER, LIT, BOTH and IF. */
final class Sized {
  private Sized() {}

  /** A text of exactly this size and this depth. */
  static String text(int size, int depth) {
    if (size < depth || size > largest(depth)) {
      throw new IllegalArgumentException(size + " large and " + depth + " deep");
    }
    if (size == 1) {
      return "n0";
    }
    int first = Math.min(largest(depth - 1), size - 1);
    int second = Math.min(largest(depth - 1), size - 1 - first);
    int third = size - 1 - first - second;
    String text = text(first, depth - 1);
    if (second == 0) {
      return text + " lit";
    }
    text += " " + text(second, leastDepth(second));
    return third == 0 ? text + " both" : text + " " + text(third, leastDepth(third)) + " if";
  }

  /** The size of a term of this depth that is IF down to its leaves. */
  private static int largest(int depth) {
    int size = 1;
    for (int k = 1; k < depth; k++) {
      size = 1 + 3 * size;
    }
    return size;
  }

  private static int leastDepth(int size) {
    int depth = 1;
    while (largest(depth) < size) {
      depth++;
    }
    return depth;
  }
}
