/** Each promise by itself: ordinary inputs, the edges that the document names, and wrong inputs. */
public final class PromisesTest {
  public static void main(String[] args) {
    newObject();
    number();
    blob();
    clear();
    insert();
    insertOrderOfTests();
    insertCells();
    insertFull();
    insertSplitsLeaf();
    insertSplitsInner();
    remove();
    removeLeaves();
    removeBelowRoot();
    freeList();
    commit();
    commitWraps();
    undo();
    crash();
    arm();
    open();
    spoil();
    rowsAndKeys();
    columnsAndCodes();
    values();
    octet();
    journal();
    Due.end();
  }

  private static void due(String what, long want, long got) {
    Due.due(what, want, got);
  }

  private static void due(String what, boolean want, boolean got) {
    Due.due(what, want, got);
  }

  /** A page from a byte on, as it is now. */
  private static void bytes(String what, RowFile file, int page, int at, int... want) {
    for (int i = 0; i < want.length; i++) {
      due(what + ": byte " + (at + i) + " of page " + page, want[i], file.octet(page, at + i, false));
    }
  }

  private static void zeros(String what, RowFile file, int page, int from, int to) {
    for (int at = from; at <= to; at++) due(what + ": byte " + at + " of page " + page, 0, file.octet(page, at, false));
  }

  private static RowFile withNumber(long v) {
    RowFile file = new RowFile();
    file.number(v);
    return file;
  }

  /** A draft that is one blob of n bytes: 1, 2, 3 and so on. */
  private static void draftBlob(RowFile file, int n) {
    file.clear();
    file.blob(false, 0, 0);
    for (int i = 1; i <= n; i++) file.blob(true, 1, i);
  }

  private static RowFile withBlob(int n) {
    RowFile file = new RowFile();
    draftBlob(file, n);
    return file;
  }

  // Promise 1
  private static void newObject() {
    RowFile file = new RowFile();
    due("NONE", -1, RowFile.NONE);
    due("FULL", -2, RowFile.FULL);
    due("DOWN", -3, RowFile.DOWN);
    due("rows", 0, file.rows());
    due("key", -1, file.key(0));
    due("pages on the disk", 2, file.journal(3));
    due("head", 0, file.journal(0));
    for (int at = 0; at < 64; at++) {
      int first = at == 0 ? 83 : at == 1 || at == 6 ? 2 : 0;
      due("new page 1, byte " + at, first, file.octet(1, at, false));
      due("new page 1 on the disk, byte " + at, first, file.octet(1, at, true));
      due("new page 2, byte " + at, at == 0 ? 13 : 0, file.octet(2, at, false));
      due("new page 2 on the disk, byte " + at, at == 0 ? 13 : 0, file.octet(2, at, true));
    }
    due("no page 3", -1, file.octet(3, 0, false));
    due("the draft is empty", -1, file.insert(1));
    due("it is up", -3, file.open());
    due("nothing to commit", 0, file.commit());
    file.number(1);
    file.insert(1);
    due("not armed", 2, file.commit());
    due("two objects do not meet", 0, new RowFile().rows());
  }

  // Promise 2
  private static void number() {
    RowFile file = new RowFile();
    due("first number", true, file.number(Long.MIN_VALUE));
    due("second number", true, file.number(Long.MAX_VALUE));
    due("third number", true, file.number(-1));
    due("fourth number", false, file.number(5));
    file.insert(3);
    due("columns", 3, file.columns(3));
    due("value", Long.MIN_VALUE, file.value(3, 0, 0));
    due("value", Long.MAX_VALUE, file.value(3, 1, 0));
    due("value", -1, file.value(3, 2, 0));
    RowFile blobs = withBlob(2);
    due("behind a blob", true, blobs.number(9));
    due("behind a number", true, blobs.blob(false, 1, 1));
    due("three columns", false, blobs.number(9));
  }

  // Promise 3
  private static void blob() {
    RowFile file = new RowFile();
    due("more of nothing", false, file.blob(true, 1, 1));
    due("n -1", false, file.blob(false, -1, 1));
    due("n 9", false, file.blob(false, 9, 1));
    due("n least", false, file.blob(false, Integer.MIN_VALUE, 1));
    due("nothing was put", -1, file.insert(1));
    due("a number", true, file.number(7));
    due("more of a number", false, file.blob(true, 1, 1));
    due("more of a number, no bytes", false, file.blob(true, 0, 1));
    due("three of the lowest bytes", true, file.blob(false, 3, 0x7788AABBCCL));
    due("more", true, file.blob(true, 2, 0xF1F2));
    due("more, n 9", false, file.blob(true, 9, 1));
    due("more, n -1", false, file.blob(true, -1, 1));
    due("an empty one", true, file.blob(false, 0, -1));
    due("a fourth one", false, file.blob(false, 0, 0));
    due("more of the third", true, file.blob(true, 8, 0x8182838485868788L));
    file.insert(1);
    int[] second = {0xAA, 0xBB, 0xCC, 0xF1, 0xF2};
    for (int i = 0; i < 5; i++) due("blob byte " + i, second[i], file.value(1, 1, i));
    for (int i = 0; i < 8; i++) due("blob byte " + i, 0x81 + i, file.value(1, 2, i));
    due("code", 22, file.code(1, 1));
    due("code", 28, file.code(1, 2));
    RowFile big = withBlob(99);
    due("101 bytes", false, big.blob(true, 2, 5));
    due("100 bytes", true, big.blob(true, 1, 200));
    due("none more", false, big.blob(true, 1, 1));
    due("no bytes more", true, big.blob(true, 0, 1));
    big.insert(1);
    due("code of 100", 212, big.code(1, 0));
    due("last byte", 200, big.value(1, 0, 99));
    due("byte behind it", 0, big.value(1, 0, 100));
  }

  // Promise 4
  private static void clear() {
    RowFile file = withNumber(5);
    file.number(6);
    file.clear();
    due("empty", -1, file.insert(1));
    file.clear();
    due("room for three again", true, file.number(1) && file.number(2) && file.number(3));
    due("inserted", 1, file.insert(1));
    due("stays when inserted", 1, file.insert(2));
    file.crash();
    file.open();
    due("stays when it goes down", 1, file.insert(3));
    due("value", 3, file.value(3, 2, 0));
    file.crash();
    file.clear();
    due("made while down", true, file.blob(false, 1, 77));
    file.open();
    due("inserted", 1, file.insert(4));
    due("one column", 1, file.columns(4));
    due("value", 77, file.value(4, 0, 0));
    file.undo();
    due("undo leaves the draft", 1, file.insert(5));
    due("value", 77, file.value(5, 0, 0));
    RowFile again = withBlob(5);
    again.clear();
    again.blob(false, 1, 3);
    again.insert(1);
    due("nothing of the old blob", 14, again.code(1, 0));
  }

  // Promise 5
  private static void insert() {
    RowFile file = withNumber(300);
    due("least key", 1, file.insert(0));
    due("greatest key", 1, file.insert(1000000));
    due("below", -1, file.insert(-1));
    due("above", -1, file.insert(1000001));
    due("far below", -1, file.insert(Integer.MIN_VALUE));
    due("far above", -1, file.insert(Integer.MAX_VALUE));
    due("twice", 0, file.insert(0));
    file.clear();
    file.number(301);
    due("twice", 0, file.insert(1000000));
    due("the old row stays", 300, file.value(1000000, 0, 0));
    due("rows", 2, file.rows());
  }

  private static void insertOrderOfTests() {
    RowFile file = withNumber(1);
    file.insert(1);
    file.clear();
    due("no columns is tested ahead of 0", -1, file.insert(1));
    file.crash();
    due("DOWN is tested first", -3, file.insert(-1));
    file.open();
    draftBlob(file, 100);
    for (int key = 10; key < 30; key++) file.insert(key);
    due("full", -2, file.insert(40));
    due("0 is tested ahead of FULL", 0, file.insert(10));
    due("no key is tested ahead of FULL", -1, file.insert(1000001));
  }

  private static void insertCells() {
    RowFile file = withNumber(0);
    file.number(1);
    file.number(-2);
    file.insert(200);
    file.insert(3);
    bytes("cells", file, 2, 0, 13, 2, 0, 0, 57, 49);
    bytes("the least key's cell", file, 2, 57, 5, 3, 4, 8, 9, 1, 254);
    bytes("the next one's", file, 2, 49, 5, 129, 72, 4, 8, 9, 1, 254);
    zeros("between", file, 2, 6, 48);

    RowFile whole = withBlob(22);
    whole.insert(16384);
    bytes("24 bytes stay whole", whole, 2, 36, 24, 129, 128, 0, 2, 56, 1, 2);
    due("no page was taken", 2, whole.octet(1, 1, false));
    RowFile chained = withBlob(23);
    chained.insert(127);
    bytes("25 bytes do not", chained, 2, 4, 45);
    bytes("25 bytes do not", chained, 2, 45, 25, 127, 2, 58, 1, 2);
    bytes("the end of the cell", chained, 2, 60, 12, 13, 14, 3);
    bytes("the chain", chained, 3, 0, 0, 15, 16, 17, 18, 19, 20, 21, 22, 23, 0);
    zeros("behind the chain", chained, 3, 10, 63);

    RowFile longest = new RowFile();
    for (int c = 0; c < 3; c++) {
      longest.blob(false, 0, 0);
      for (int i = 0; i < 100; i++) longest.blob(true, 1, 100 * c + i & 255);
    }
    due("the longest row", 1, longest.insert(1));
    bytes("its cell", longest, 2, 44, 130, 51, 1, 7, 129, 84, 129, 84, 129, 84, 0);
    due("its first page", 3, longest.octet(2, 63, false));
    for (int p = 3; p < 7; p++) bytes("its pages", longest, p, 0, p + 1);
    bytes("its last page", longest, 7, 0, 0);
    due("the last byte of it", 299 & 255, longest.octet(7, 39, false));
    zeros("behind it", longest, 7, 40, 63);
    due("PAGES", 7, longest.octet(1, 1, false));
    RowFile fullPage = withBlob(77);
    fullPage.insert(1);
    due("79 + 1 bytes need two pages", 4, fullPage.octet(1, 1, false));
    RowFile onePage = withBlob(76);
    onePage.insert(1);
    due("79 bytes need one", 3, onePage.octet(1, 1, false));
    due("which is full", 76, onePage.octet(3, 63, false));
  }

  private static void insertFull() {
    RowFile file = withBlob(100);
    int key = 0;
    while (key < 100 && file.insert(key) == 1) key++;
    int[][] before = new int[25][64];
    for (int p = 1; p <= 24; p++) for (int at = 0; at < 64; at++) before[p][at] = file.octet(p, at, false);
    int rows = file.rows();
    due("full again", -2, file.insert(1000));
    draftBlob(file, 90);
    file.blob(false, 8, 1);
    due("full again, in the middle", -2, file.insert(0x3FFF));
    for (int p = 1; p <= 24; p++) {
      for (int at = 0; at < 64; at++) due("as before FULL", before[p][at], file.octet(p, at, false));
    }
    due("rows as before", rows, file.rows());
    file.clear();
    file.number(0);
    int small = 0;
    for (int k = 1000; k < 1060; k++) if (file.insert(k) == 1) small++;
    due("what has room comes in", true, small > 0);
    due("24 pages at most", true, file.octet(1, 1, false) <= 24);
    due("no page 25", -1, file.octet(25, 0, false));
    int removed = file.key(0);
    file.remove(removed);
    draftBlob(file, 100);
    due("the freed pages are room", 1, file.insert(removed));
  }

  private static void insertSplitsLeaf() {
    RowFile file = withBlob(11);
    for (int key = 1; key <= 3; key++) file.insert(key);
    bytes("three cells of 16 and a place", file, 2, 0, 13, 3, 0, 0, 49, 34, 19);
    file.clear();
    draftBlob(file, 7);
    due("60 bytes have room", 1, file.insert(4));
    due("PAGES", 2, file.octet(1, 1, false));
    RowFile over = withBlob(11);
    for (int key = 1; key <= 3; key++) over.insert(key);
    draftBlob(over, 8);
    due("61 have not", 1, over.insert(0));
    bytes("ROOT is inner", over, 2, 0, 5, 1, 3, 0, 62);
    bytes("its cell", over, 2, 62, 4, 2);
    zeros("the rest of it", over, 2, 5, 61);
    bytes("what stays", over, 3, 0, 13, 1, 0, 0, 49, 0);
    bytes("its row", over, 3, 49, 13, 3, 2, 34);
    zeros("nothing else", over, 3, 5, 48);
    bytes("what r gets", over, 4, 0, 13, 3, 0, 0, 52, 37, 22, 0);
    due("ROOT's number stays", 2, over.octet(1, 6, false));
    due("PAGES", 4, over.octet(1, 1, false));
    due("to the child whose key is not less", 1, over.remove(2));
    draftBlob(over, 11);
    over.insert(2);
    due("it is in r again", 3, over.octet(4, 1, false));
    draftBlob(over, 0);
    over.insert(5);
    due("greater keys go to LAST", 2, over.octet(3, 1, false));
  }

  /** Keys of three bytes: an inner page has room for twelve cells. */
  private static void insertSplitsInner() {
    RowFile file = withBlob(22);
    for (int i = 0; i < 26; i++) due("row " + i, 1, file.insert(100000 + i));
    bytes("twelve cells have room", file, 2, 0, 5, 12, 3, 0, 60);
    due("PAGES", 15, file.octet(1, 1, false));
    due("one more", 1, file.insert(100026));
    bytes("ROOT is split", file, 2, 0, 5, 1, 17, 0, 60, 0);
    bytes("its cell: the twelfth key", file, 2, 60, 18, 134, 141, 55);
    bytes("r has eleven cells, the twelfth one's child is its LAST", file, 18, 0, 5, 11, 15, 0, 60);
    bytes("one cell stays", file, 17, 0, 5, 1, 3, 0, 60, 0);
    bytes("its cell", file, 17, 60, 16, 134, 141, 57);
    for (int i = 0; i < 27; i++) due("key " + i, 100000 + i, file.key(i));
  }

  // Promise 6
  private static void remove() {
    RowFile file = withNumber(5);
    due("none", 0, file.remove(1));
    due("no key", 0, file.remove(-1));
    due("no key", 0, file.remove(1000001));
    file.insert(1);
    file.insert(2);
    file.insert(3);
    due("there", 1, file.remove(2));
    due("not any more", 0, file.remove(2));
    bytes("the cells close up", file, 2, 0, 13, 2, 0, 0, 59, 54, 0);
    zeros("the rest", file, 2, 6, 53);
    due("rows", 2, file.rows());
    file.remove(1);
    file.remove(3);
    bytes("ROOT may be empty", file, 2, 0, 13, 0, 0);
    file.crash();
    due("DOWN is tested first", -3, file.remove(-1));
  }

  /** Two rows to a leaf. */
  private static RowFile leaves(int rows) {
    RowFile file = withBlob(22);
    for (int key = 1; key <= rows; key++) file.insert(key);
    file.commit();
    return file;
  }

  private static void removeLeaves() {
    RowFile file = leaves(5);
    bytes("three leaves", file, 2, 0, 5, 2, 3, 0, 62, 60);
    bytes("by keys", file, 2, 60, 5, 4, 4, 2);
    file.remove(3);
    file.remove(4);
    bytes("the page above loses its cell", file, 2, 0, 5, 1, 3, 0, 62, 0, 0);
    bytes("the leaf is freed", file, 5, 0, 0, 0);
    bytes("the list", file, 1, 1, 5, 5, 1);
    file.undo();
    file.remove(5);
    bytes("LAST is freed, the last child becomes LAST", file, 2, 0, 5, 1, 5, 0, 62, 0, 0);
    bytes("the list", file, 1, 1, 5, 3, 1);
    file.remove(1);
    file.remove(2);
    bytes("ROOT gets all that its LAST has", file, 2, 0, 13, 2, 0, 0, 38, 12);
    bytes("the leaf first, then LAST", file, 1, 1, 5, 5, 3);
    bytes("the list", file, 5, 0, 4);
    bytes("the list", file, 4, 0, 3);
    zeros("a free page", file, 5, 1, 63);
    due("key", 3, file.key(0));
    due("key", 4, file.key(1));
  }

  private static void removeBelowRoot() {
    RowFile file = withBlob(22);
    for (int i = 0; i < 27; i++) file.insert(100000 + i);
    file.remove(100026);
    bytes("what leads to it leads to its LAST", file, 2, 0, 5, 1, 16, 0, 60);
    bytes("the leaf first, then the page above", file, 1, 1, 18, 17, 2);
    bytes("the list", file, 17, 0, 3);
    due("rows", 26, file.rows());
    due("leaves stand at unlike depths", 100025, file.key(25));
    file.commit();
    file.crash();
    due("it can be opened", 26, file.open());
    file.remove(100024);
    file.remove(100025);
    bytes("ROOT gets an inner page", file, 2, 0, 5, 11, 15, 0);
    due("rows", 24, file.rows());
  }

  /** TO TAKE and TO FREE a page. */
  private static void freeList() {
    RowFile file = withBlob(100);
    file.insert(1);
    file.insert(2);
    bytes("two chains", file, 3, 0, 4);
    bytes("two chains", file, 5, 0, 6);
    file.remove(1);
    bytes("the chain's first page is freed first", file, 1, 1, 6, 4, 2);
    bytes("the list", file, 4, 0, 3, 0);
    bytes("the list", file, 3, 0, 0, 0);
    zeros("free pages are 0", file, 3, 1, 63);
    zeros("free pages are 0", file, 4, 1, 63);
    file.remove(2);
    bytes("the list", file, 1, 1, 6, 6, 4);
    file.insert(7);
    bytes("the first free page is taken first", file, 6, 0, 5);
    bytes("the list", file, 1, 1, 6, 4, 2);
    due("the cell leads there", 6, file.octet(2, 63, false));
  }

  // Promise 7
  private static void commit() {
    RowFile file = withNumber(1);
    due("nothing", 0, file.commit());
    due("CHANGES stays", 0, file.octet(1, 5, true));
    file.insert(1);
    due("not on the disk yet", 0, file.octet(2, 1, true));
    due("two pages", 2, file.commit());
    due("on the disk", 1, file.octet(2, 1, true));
    due("CHANGES", 1, file.octet(1, 5, true));
    due("CHANGES now", 1, file.octet(1, 5, false));
    due("nothing", 0, file.commit());
    due("CHANGES", 1, file.octet(1, 5, false));
    file.insert(2);
    file.remove(2);
    due("as on the disk again", 0, file.commit());
    draftBlob(file, 100);
    file.insert(3);
    file.remove(3);
    due("new pages are different, empty or not", 3, file.commit());
    due("pages", 4, file.journal(3));
    file.crash();
    due("down", -3, file.commit());
    file.open();
    file.insert(4);
    file.arm(0);
    due("goes down", -3, file.commit());
    due("is down", -3, file.commit());
  }

  private static void commitWraps() {
    RowFile file = withNumber(1);
    file.crash();
    file.spoil(1, 4, 0);
    file.spoil(1, 5, 255);
    file.open();
    file.insert(1);
    file.commit();
    due("256, high", 1, file.octet(1, 4, true));
    due("256, low", 0, file.octet(1, 5, true));
    file.crash();
    file.spoil(1, 4, 255);
    file.spoil(1, 5, 255);
    due("any CHANGES", 1, file.open());
    file.insert(2);
    due("pages", 2, file.commit());
    due("0 behind 65535, high", 0, file.octet(1, 4, true));
    due("0 behind 65535, low", 0, file.octet(1, 5, true));
  }

  // Promise 8
  private static void undo() {
    RowFile file = withBlob(100);
    due("nothing to undo", true, file.undo());
    file.insert(1);
    due("undone", true, file.undo());
    due("no rows", 0, file.rows());
    due("PAGES", 2, file.octet(1, 1, false));
    due("no page 3", -1, file.octet(3, 0, false));
    due("nothing to commit", 0, file.commit());
    file.insert(2);
    file.commit();
    file.remove(2);
    file.insert(3);
    file.undo();
    due("as at the commit", 1, file.rows());
    due("as at the commit", 2, file.key(0));
    due("as at the commit", 100, file.value(2, 0, 99));
    file.crash();
    due("down", false, file.undo());
    file.open();
    file.remove(2);
    file.undo();
    due("as at the opening", 1, file.rows());
    file.arm(0);
    file.undo();
    file.remove(2);
    due("it stays armed", -3, file.commit());
  }

  // Promise 9
  private static void crash() {
    RowFile file = withNumber(9);
    file.insert(1);
    file.commit();
    file.insert(2);
    file.arm(0);
    due("up", true, file.crash());
    due("down", false, file.crash());
    due("the file stays", 1, file.octet(2, 1, true));
    due("no HEAD", 0, file.journal(0));
    due("what was not committed is lost", 1, file.open());
    due("lost", -1, file.columns(2));
    file.insert(3);
    due("it is not armed any more", 2, file.commit());
  }

  // Promise 10
  private static void arm() {
    RowFile file = withNumber(9);
    due("-1", false, file.arm(-1));
    due("61", false, file.arm(61));
    due("least", false, file.arm(Integer.MIN_VALUE));
    file.insert(1);
    due("not armed by those", 2, file.commit());
    due("60", true, file.arm(60));
    due("0", true, file.arm(0));
    due("a wrong one leaves it", false, file.arm(61));
    file.insert(2);
    due("armed with 0", -3, file.commit());
    due("down", false, file.arm(5));
    file.open();
    file.insert(2);
    due("going down takes it away", 2, file.commit());
    file.arm(0);
    due("in place of what it was", true, file.arm(60));
    file.remove(2);
    due("6 writes", 2, file.commit());
    for (int i = 0; i < 9; i++) {
      if (i % 2 == 0) file.insert(2);
      else file.remove(2);
      due("6 more writes", 2, file.commit());
    }
    due("no write", 0, file.commit());
    file.insert(5);
    due("the 61st write", -3, file.commit());
    due("it was the first of the commit", 0, file.journal(0));
  }

  // Promise 11 (what is refused is in RefusalsTest, what a journal does in CrashesTest)
  private static void open() {
    RowFile file = withNumber(9);
    due("up", -3, file.open());
    file.crash();
    due("no rows", 0, file.open());
    file.insert(1);
    file.insert(2);
    file.commit();
    file.insert(3);
    file.crash();
    due("two rows", 2, file.open());
    due("up", -3, file.open());
    due("value", 9, file.value(2, 0, 0));
    file.crash();
    file.spoil(1, 0, 84);
    due("refused", -1, file.open());
    due("stays down", -3, file.rows());
    due("refused again", -1, file.open());
    file.spoil(1, 0, 83);
    due("as it must be", 2, file.open());
    RowFile longest = new RowFile();
    for (int i = 0; i < 300; i++) longest.blob(i % 100 != 0, 1, i);
    longest.insert(1000000);
    longest.commit();
    longest.crash();
    due("the longest row", 1, longest.open());
    longest.clear();
    for (int i = 0; i < 300; i++) longest.blob(i % 100 != 0, 1, 9);
    longest.insert(1);
    for (int i = 0; i < 300; i++) due("its byte " + i, i & 255, longest.value(1000000, i / 100, i % 100));
  }

  // Promise 12
  private static void spoil() {
    RowFile file = withNumber(9);
    due("up", false, file.spoil(1, 5, 1));
    file.crash();
    due("down", true, file.spoil(1, 5, 255));
    due("the byte", 255, file.octet(1, 5, true));
    due("page 0", false, file.spoil(0, 5, 1));
    due("page -1", false, file.spoil(-1, 5, 1));
    due("page 3", false, file.spoil(3, 5, 1));
    due("byte -1", false, file.spoil(2, -1, 1));
    due("byte 64", false, file.spoil(1, 64, 1));
    due("byte 63", true, file.spoil(2, 63, 0));
    due("v -1", false, file.spoil(1, 4, -1));
    due("v 256", false, file.spoil(1, 4, 256));
    due("v 0", true, file.spoil(1, 4, 0));
    due("rows", 0, file.open());
    due("it is so now, too", 255, file.octet(1, 5, false));
  }

  // Promises 13 and 14
  private static void rowsAndKeys() {
    RowFile file = withNumber(1000);
    int[] keys = {500, 3, 1000000, 77, 0, 128, 16384, 127, 16383, 40000, 9, 8, 7, 6, 5, 4};
    for (int i = 0; i < keys.length; i++) {
      due("rows", i, file.rows());
      file.insert(keys[i]);
    }
    java.util.Arrays.sort(keys);
    for (int i = 0; i < keys.length; i++) due("key " + i, keys[i], file.key(i));
    due("key -1", -1, file.key(-1));
    due("key least", -1, file.key(Integer.MIN_VALUE));
    due("key behind", -1, file.key(keys.length));
    due("key greatest", -1, file.key(Integer.MAX_VALUE));
    file.commit();
    file.crash();
    due("rows, down", -3, file.rows());
    due("key, down", -1, file.key(0));
  }

  // Promises 15 and 16
  private static void columnsAndCodes() {
    long[] numbers = {0, 1, 2, -1, 127, -128, 128, -129, 32767, -32768, 32768, -32769,
      Integer.MAX_VALUE, Integer.MIN_VALUE, Integer.MAX_VALUE + 1L, Integer.MIN_VALUE - 1L, Long.MAX_VALUE,
      Long.MIN_VALUE};
    int[] codes = {8, 9, 1, 1, 1, 1, 2, 2, 2, 2, 4, 4, 4, 4, 6, 6, 6, 6};
    for (int i = 0; i < numbers.length; i++) {
      RowFile file = withNumber(numbers[i]);
      file.insert(i);
      due("columns", 1, file.columns(i));
      due("code of " + numbers[i], codes[i], file.code(i, 0));
      due("value of " + numbers[i], numbers[i], file.value(i, 0, -5));
    }
    for (int n = 0; n <= 100; n += 10) {
      RowFile file = withBlob(n);
      file.insert(1);
      due("code of a blob", 12 + 2 * n, file.code(1, 0));
    }
    RowFile file = withNumber(5);
    file.number(6);
    file.insert(1);
    due("columns", 2, file.columns(1));
    due("columns of none", -1, file.columns(2));
    due("columns of no key", -1, file.columns(-1));
    due("code, column 2", -1, file.code(1, 2));
    due("code, column -1", -1, file.code(1, -1));
    due("code of none", -1, file.code(0, 0));
    RowFile mixed = withBlob(3);
    mixed.number(0);
    mixed.number(70000);
    mixed.insert(1);
    due("code of a blob", 18, mixed.code(1, 0));
    due("code of the next column", 8, mixed.code(1, 1));
    due("code of the last column", 4, mixed.code(1, 2));
    file.commit();
    file.crash();
    due("columns, down", -1, file.columns(1));
    due("code, down", -1, file.code(1, 0));
  }

  // Promise 17
  private static void values() {
    RowFile file = withNumber(-300);
    file.blob(false, 2, 0x00FF);
    file.insert(1);
    due("an integer, any i", -300, file.value(1, 0, 1000));
    due("byte 0", 0, file.value(1, 1, 0));
    due("byte 1", 255, file.value(1, 1, 1));
    due("byte 2", 0, file.value(1, 1, 2));
    due("byte -1", 0, file.value(1, 1, -1));
    due("byte greatest", 0, file.value(1, 1, Integer.MAX_VALUE));
    due("column 2", 0, file.value(1, 2, 0));
    due("column -1", 0, file.value(1, -1, 0));
    due("no row", 0, file.value(2, 0, 0));
    RowFile big = withBlob(100);
    big.blob(false, 8, 0x0102030405060708L);
    big.number(Long.MIN_VALUE + 1);
    big.insert(1);
    for (int i = 0; i < 100; i++) due("byte " + i, i + 1, big.value(1, 0, i));
    due("behind a blob", 8, big.value(1, 1, 7));
    due("behind two", Long.MIN_VALUE + 1, big.value(1, 2, 0));
    big.crash();
    due("down", 0, big.value(1, 2, 0));
  }

  // Promise 18
  private static void octet() {
    RowFile file = withBlob(100);
    file.insert(1);
    due("now", 4, file.octet(1, 1, false));
    due("on the disk", 2, file.octet(1, 1, true));
    due("page 4 now", 77, file.octet(4, 1, false));
    due("no page 4 on the disk", -1, file.octet(4, 0, true));
    due("no page 5", -1, file.octet(5, 0, false));
    due("page 0", -1, file.octet(0, 0, false));
    due("page -1", -1, file.octet(-1, 0, true));
    due("byte -1", -1, file.octet(1, -1, false));
    due("byte 64", -1, file.octet(1, 64, true));
    due("far away", -1, file.octet(Integer.MAX_VALUE, Integer.MIN_VALUE, true));
    RowFile high = withNumber(-1);
    high.insert(1);
    due("0 .. 255", 255, high.octet(2, 63, false));
    file.crash();
    due("down", -1, file.octet(1, 0, false));
    due("down, on the disk", 83, file.octet(1, 0, true));
  }

  // Promise 19
  private static void journal() {
    RowFile file = withBlob(100);
    for (int what = 0; what < 3; what++) due("journal " + what, 0, file.journal(what));
    due("pages", 2, file.journal(3));
    due("-1", -1, file.journal(-1));
    due("4", -1, file.journal(4));
    file.insert(1);
    due("pages now do not count", 2, file.journal(3));
    file.arm(4);
    due("goes down", -3, file.commit());
    due("HEAD", 1, file.journal(0));
    due("PAGES as they were", 2, file.journal(1));
    due("records of pages that were there", 2, file.journal(2));
    due("the pages on the disk", 2, file.journal(3));
    file.open();
    for (int what = 0; what < 3; what++) due("journal " + what, 0, file.journal(what));
    file.insert(1);
    file.arm(7);
    due("goes down at the last write", -3, file.commit());
    due("HEAD", 1, file.journal(0));
    due("PAGES as they were", 2, file.journal(1));
    due("the pages on the disk", 4, file.journal(3));
    due("what was", 0, file.open());
    due("the file ends again", 2, file.journal(3));
  }
}
