/** Drafts and files for tests at a boundary. */
final class Drafts {
  private Drafts() {}

  /** One integer. */
  static void number(RowFile file, long v) {
    file.clear();
    file.number(v);
  }

  /** Blobs of these sizes, their bytes counted from 1 on through all of them; answers the record. */
  static int[] blobs(RowFile file, int... sizes) {
    file.clear();
    int codes = 0;
    int values = 0;
    for (int size : sizes) {
      codes += size < 58 ? 1 : 2;
      values += size;
    }
    int[] record = new int[1 + codes + values];
    record[0] = 1 + codes;
    int at = 1;
    for (int size : sizes) {
      if (size >= 58) record[at++] = 128 + (12 + 2 * size) / 128;
      record[at++] = (12 + 2 * size) % 128;
    }
    for (int i = 1; at < record.length; i++) record[at++] = i & 255;
    put(file, sizes);
    return record;
  }

  private static void put(RowFile file, int[] sizes) {
    int v = 1;
    for (int size : sizes) {
      file.blob(false, 0, 0);
      for (int left = size; left > 0; left--) file.blob(true, 1, v++);
    }
  }

  /** A draft whose record has so many bytes, 2 to 307; answers the record. */
  static int[] ofLength(RowFile file, int length) {
    for (int shorts = 0; shorts <= 3; shorts++) {
      for (int longs = shorts == 0 ? 1 : 0; shorts + longs <= 3; longs++) {
        int bytes = length - 1 - shorts - 2 * longs;
        if (bytes >= 58 * longs && bytes <= 57 * shorts + 100 * longs) {
          return blobs(file, sizes(shorts, longs, bytes));
        }
      }
    }
    throw new IllegalArgumentException("no record has " + length + " bytes");
  }

  private static int[] sizes(int shorts, int longs, int bytes) {
    int[] sizes = new int[shorts + longs];
    int left = bytes;
    for (int c = 0; c < sizes.length; c++) {
      int later = 58 * Math.max(0, longs - c - 1);
      sizes[c] = Math.min(c < longs ? 100 : 57, left - later);
      left -= sizes[c];
    }
    return sizes;
  }

  /** A draft with a chain of so many full pages (five of them hold the longest row); with 0, one of 24 bytes. */
  static void ofChain(RowFile file, int pages) {
    ofLength(file, pages == 0 ? 24 : Math.min(16 + 63 * pages, 307));
  }

  static int insert(RowFile file, int chain, int key) {
    ofChain(file, chain);
    return file.insert(key);
  }

  /**
   * An inner ROOT with room, and below it a leaf with the row 1, which has room for a row with a chain, too. All 24
   * pages are there, but for the fresh ones; so many are in the list.
   */
  static void almostFull(RowFile file, int listed, int fresh) {
    insert(file, 5, 1);
    insert(file, listed, 2);
    insert(file, 5, 3);
    insert(file, 5, 4);
    if (listed + fresh < 5) insert(file, 4 - listed - fresh, 5);
    file.remove(2);
    Due.due("almost full: PAGES", 24 - fresh, file.octet(1, 1, false));
    Due.due("almost full: FREE", listed, file.octet(1, 3, false));
  }

  /**
   * An inner ROOT that has no room for a cell more, and two rows to each leaf; the next row, with a key of three bytes
   * and no chain, takes three pages.
   */
  static void fullRoot(RowFile file, int listed, int fresh) {
    insert(file, 5, 100000);
    insert(file, 4 - listed - fresh, 100001);
    insert(file, listed, 100002);
    for (int key = 100003; key < 100026; key++) insert(file, 0, key);
    if (listed > 0) {
      file.remove(100002);
      insert(file, 0, 100002);
    }
    Due.due("full root: PAGES", 24 - fresh, file.octet(1, 1, false));
    Due.due("full root: FREE", listed, file.octet(1, 3, false));
    Due.due("full root: cells", 12, file.octet(2, 1, false));
  }
}
