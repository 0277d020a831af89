/** Counts and prints the answers that are not as due. */
final class Due {
  private static int wrong = 0;
  private static int asked = 0;

  private Due() {}

  static void due(String what, long want, long got) {
    asked++;
    if (got != want) tell(what + " answered " + got + ", due is " + want);
  }

  static void due(String what, boolean want, boolean got) {
    due(what, want ? 1 : 0, got ? 1 : 0);
  }

  /** Two texts of several lines; the first line that is not the same is told. */
  static void same(String what, String want, String got) {
    asked++;
    if (want.equals(got)) return;
    String[] due = want.split("\n");
    String[] seen = got.split("\n");
    int line = 0;
    while (line < due.length && line < seen.length && due[line].equals(seen[line])) line++;
    tell(what + " is '" + (line < seen.length ? seen[line] : "") + "', due is '" + (line < due.length ? due[line] : "")
        + "'");
  }

  private static void tell(String text) {
    wrong++;
    if (wrong <= 50) System.out.println(text);
  }

  static int wrong() {
    return wrong;
  }

  static void end() {
    System.out.println(asked + " answers, " + wrong + " not as due");
    if (wrong != 0 || asked == 0) System.exit(1);
  }
}
