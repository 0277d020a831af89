/** Counts and prints the answers that are not as due. */
final class Due {
  private static int wrong = 0;
  private static int asked = 0;

  private Due() {}

  static void due(String what, long want, long got) {
    asked++;
    if (got != want) {
      wrong++;
      if (wrong <= 50) System.out.println(what + " answered " + got + ", due is " + want);
    }
  }

  static void due(String what, boolean want, boolean got) {
    due(what, want ? 1 : 0, got ? 1 : 0);
  }

  static int wrong() {
    return wrong;
  }

  static void end() {
    System.out.println(asked + " answers, " + wrong + " not as due");
    if (wrong != 0 || asked == 0) System.exit(1);
  }
}
