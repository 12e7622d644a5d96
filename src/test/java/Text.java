/**
 * Terms as texts, parts before wholes: "n5 lit n7 lit sum call". A word is an operation's name,
 * with its number behind it where it takes one: n NUMBER, t TRUTH, v VARIABLE, as AS, cases CASES.
 */
final class Text {
  private static final String[] WORDS = {
    "n", "t", "v", "add", "less", "if", "both", "first", "second", "call", "as", "lit", "bit",
    "sum", "when", "duo", "left", "cases"
  };

  private Text() {}

  /** Makes every term of the text: the last answer. */
  static int make(RigidCases x, String text) {
    int answer = 0;
    for (String word : text.trim().split(" +")) {
      answer = x.make(op(word), argument(word));
      if (answer < 0) {
        throw new IllegalArgumentException(word + " in " + text + " answered " + answer);
      }
    }
    return answer;
  }

  static void function(RigidCases x, String text, int result) {
    make(x, text);
    if (!x.function(result)) {
      throw new IllegalArgumentException(text);
    }
  }

  static void main(RigidCases x, String text, int type) {
    make(x, text);
    if (!x.main(type)) {
      throw new IllegalArgumentException(text);
    }
  }

  static int op(String word) {
    String name = word.replaceAll("-?[0-9]+$", "");
    for (int op = 0; op < WORDS.length; op++) {
      if (WORDS[op].equals(name)) {
        return op;
      }
    }
    throw new IllegalArgumentException(word);
  }

  static int argument(String word) {
    String digits = word.replaceAll("^[a-z]+", "");
    return digits.isEmpty() ? 0 : Integer.parseInt(digits);
  }
}
