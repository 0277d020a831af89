/** What can be seen of an object, as a text, so that two objects can be compared. */
final class Seen {
  private static final int PROBE = 500000;

  private Seen() {}

  /** All that the calls tell which change nothing. */
  static String now(RowFile file) {
    StringBuilder text = new StringBuilder();
    for (int what = 0; what <= 3; what++) text.append("journal ").append(file.journal(what)).append('\n');
    pages(text, file, true);
    pages(text, file, false);
    text.append("rows ").append(file.rows()).append('\n');
    for (int i = 0; file.key(i) >= 0; i++) row(text, file, file.key(i));
    return text.toString();
  }

  private static void pages(StringBuilder text, RowFile file, boolean onDisk) {
    for (int page = 1; file.octet(page, 0, onDisk) >= 0; page++) {
      text.append(onDisk ? "on the disk " : "page ").append(page).append(':');
      for (int at = 0; at < 64; at++) text.append(' ').append(file.octet(page, at, onDisk));
      text.append('\n');
    }
  }

  private static void row(StringBuilder text, RowFile file, int key) {
    text.append("row ").append(key).append(':');
    for (int c = 0; c < file.columns(key); c++) {
      text.append(" code ").append(file.code(key, c));
      for (int i = 0; i <= 100; i++) text.append(' ').append(file.value(key, c, i));
    }
    text.append('\n');
  }

  /** What shows only later: the draft, and the number that it is armed with. The object is spent then. */
  static String later(RowFile file) {
    StringBuilder text = new StringBuilder();
    if (file.rows() < 0) text.append("open ").append(file.open()).append('\n').append(now(file));
    if (file.rows() < 0) mend(file);
    for (int i = 0; i < 300 && file.rows() > 0; i++) file.remove(file.key(0));
    draft(text, file);
    armed(text, file);
    return text.toString();
  }

  /** Writes a file without rows to the disk, as long as the one that is there. */
  private static void mend(RowFile file) {
    int pages = file.journal(3);
    int[] first = {83, pages, pages > 2 ? 3 : 0, pages - 2, 0, 0, 2};
    for (int page = 1; page <= pages; page++) {
      for (int at = 0; at < 64; at++) {
        int v = at == 0 && page == 2 ? 13 : at == 0 && page > 2 && page < pages ? page + 1 : 0;
        file.spoil(page, at, page == 1 && at < 7 ? first[at] : v);
      }
    }
    Due.due("the mended file is opened", 0, file.open());
  }

  private static void draft(StringBuilder text, RowFile file) {
    text.append("insert ").append(file.insert(PROBE)).append('\n');
    row(text, file, PROBE);
    file.remove(PROBE);
    text.append("more ").append(file.blob(true, 1, 9)).append('\n');
    for (int i = 0; i < 4; i++) text.append("number ").append(file.number(70000 + i)).append('\n');
    file.insert(PROBE);
    row(text, file, PROBE);
    file.remove(PROBE);
  }

  private static void armed(StringBuilder text, RowFile file) {
    file.clear();
    file.number(5);
    for (int i = 0; i < 12 && file.rows() >= 0; i++) {
      if (i % 2 == 0) file.insert(PROBE);
      else file.remove(PROBE);
      text.append("commit ").append(file.commit()).append('\n');
    }
    text.append(now(file));
  }
}
