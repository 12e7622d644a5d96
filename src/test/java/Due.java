/** Counts and prints the answers that are not as due. */
final class Due {
  private final String name;
  private int asked;
  private int wrong;

  Due(String name) {
    this.name = name;
  }

  void is(String what, long got, long want) {
    asked++;
    if (got != want) {
      wrong++;
      System.out.println(what + " answered " + got + ", due is " + want);
    }
  }

  void is(String what, boolean got, boolean want) {
    is(what, got ? 1 : 0, want ? 1 : 0);
  }

  /** Ends the program, with exit code 1 if an answer was wrong. */
  void end() {
    System.out.println(name + ": " + asked + " answers, " + wrong + " not as due");
    System.exit(wrong == 0 ? 0 : 1);
  }
}
