/** The sentences of "Terms" that name a boundary: what stands in the pages on both sides of it. */
public final class LimitsTest {
  public static void main(String[] args) {
    keys();
    columns();
    blobs();
    varintsOfKeys();
    varintsOfLengths();
    varintsOfCodes();
    varintsOfInnerKeys();
    codesAndValues();
    recordHeads();
    pages();
    freePages();
    cellsFromTheEnd();
    roomOfLeaf();
    roomOfSplitLeaf();
    roomOfInnerPage();
    wholeRecords();
    chains();
    chainsBehindLongerOnes();
    keysLeadToChildOrLast();
    firstFreePage();
    splitsUpToRoot();
    splitsBelowRoot();
    leafOfRootStays();
    leafIsFreed();
    lastLeafIsFreed();
    rootGetsItsLast();
    innerPageIsFreed();
    pagesThatAreDifferent();
    changesCount();
    writesOfCommit();
    longestCommit();
    armedWithSixty();
    tornPage();
    pageThatWasNotThere();
    Due.end();
  }

  private static void bytes(String what, RowFile file, int page, int at, int... want) {
    for (int i = 0; i < want.length; i++) {
      Due.due(what + ": byte " + (at + i) + " of page " + page, want[i], file.octet(page, at + i, false));
    }
  }

  private static void zeros(String what, RowFile file, int page, int from, int to) {
    for (int at = from; at <= to; at++) {
      Due.due(what + ": byte " + at + " of page " + page, 0, file.octet(page, at, false));
    }
  }

  /** What stands at the end of a page. */
  private static void end(String what, RowFile file, int page, int... want) {
    bytes(what, file, page, 64 - want.length, want);
    Due.due(what + ": the place", 64 - want.length, file.octet(page, 4, false));
  }

  private static RowFile one(int key, long v) {
    RowFile file = new RowFile();
    file.number(v);
    Due.due("insert " + key, 1, file.insert(key));
    return file;
  }

  /** The draft has a record of 24 bytes: two rows to a leaf. */
  private static RowFile whole(int... keys) {
    RowFile file = new RowFile();
    Drafts.ofLength(file, 24);
    for (int key : keys) Due.due("insert " + key, 1, file.insert(key));
    return file;
  }

  private static RowFile wholeFrom(int first, int rows) {
    RowFile file = whole();
    for (int i = 0; i < rows; i++) Due.due("row " + i, 1, file.insert(first + i));
    return file;
  }

  /** Commits it and opens it again. */
  private static void canBeOpened(String what, RowFile file) {
    int rows = file.rows();
    file.commit();
    file.crash();
    Due.due(what + ": opened", rows, file.open());
  }

  // "A ROW has a KEY, 0 .. 1000000"
  private static void keys() {
    RowFile file = new RowFile();
    file.number(0);
    Due.due("below the least", -1, file.insert(-1));
    Due.due("the least", 1, file.insert(0));
    Due.due("the greatest", 1, file.insert(1000000));
    Due.due("above the greatest", -1, file.insert(1000001));
    Due.due("two rows", 2, file.rows());
    Due.due("the least", 0, file.key(0));
    Due.due("the greatest", 1000000, file.key(1));
    canBeOpened("least and greatest key", file);
  }

  // "and 1 to 3 COLUMNS"
  private static void columns() {
    RowFile file = new RowFile();
    Due.due("none", -1, file.insert(0));
    for (int n = 1; n <= 3; n++) {
      Due.due("column " + n, true, file.number(n));
      Due.due("a row of " + n, 1, file.insert(n));
    }
    Due.due("a fourth one", false, file.number(4));
    Due.due("a fourth one", false, file.blob(false, 0, 0));
    for (int n = 1; n <= 3; n++) Due.due("columns", n, file.columns(n));
    Due.due("no other row", 3, file.rows());
    canBeOpened("1 to 3 columns", file);
  }

  // "a BLOB, 0 to 100 bytes"
  private static void blobs() {
    RowFile file = new RowFile();
    Drafts.blobs(file, 0);
    file.insert(1);
    end("no bytes", file, 2, 2, 1, 2, 12);
    Drafts.blobs(file, 100);
    file.insert(2);
    Due.due("byte 101", false, file.blob(true, 1, 1));
    file.insert(3);
    for (int key = 2; key <= 3; key++) {
      Due.due("100 bytes", 212, file.code(key, 0));
      Due.due("the last one", 100, file.value(key, 0, 99));
      Due.due("none behind it", 0, file.value(key, 0, 100));
    }
    canBeOpened("0 and 100 bytes", file);
  }

  // "its bits in groups of 7, as few as there can be (at least one)"
  private static void varintsOfKeys() {
    end("0", one(0, 0), 2, 2, 0, 2, 8);
    end("127", one(127, 0), 2, 2, 127, 2, 8);
    end("128", one(128, 0), 2, 2, 129, 0, 2, 8);
    end("255", one(255, 0), 2, 2, 129, 127, 2, 8);
    end("256", one(256, 0), 2, 2, 130, 0, 2, 8);
    end("16383", one(16383, 0), 2, 2, 255, 127, 2, 8);
    end("16384", one(16384, 0), 2, 2, 129, 128, 0, 2, 8);
    end("1000000", one(1000000, 0), 2, 2, 189, 132, 64, 2, 8);
    for (int key : new int[] {0, 127, 128, 16383, 16384, 1000000}) {
      RowFile file = one(key, 0);
      canBeOpened("key " + key, file);
      Due.due("the key", key, file.key(0));
      Due.due("no row just below it", -1, file.columns(key - 1));
      Due.due("no row just above it", -1, file.columns(key + 1));
    }
  }

  private static void varintsOfLengths() {
    for (int length : new int[] {126, 127, 128, 129, 255, 256, 306, 307}) {
      RowFile file = new RowFile();
      Drafts.ofLength(file, length);
      Due.due("a record of " + length, 1, file.insert(3));
      if (length < 128) bytes("one byte", file, 2, 45, length, 3);
      else bytes("two bytes", file, 2, 44, 128 + length / 128, length % 128, 3);
      Due.due("its place", length < 128 ? 45 : 44, file.octet(2, 4, false));
      canBeOpened("a record of " + length, file);
    }
  }

  private static void varintsOfCodes() {
    RowFile file = new RowFile();
    Drafts.blobs(file, 57);
    file.insert(1);
    bytes("code 126", file, 2, 45, 59, 1, 2, 126, 1, 2);
    file = new RowFile();
    Drafts.blobs(file, 58);
    file.insert(1);
    bytes("code 128", file, 2, 45, 61, 1, 3, 129, 0, 1, 2);
    canBeOpened("code 128", file);
  }

  private static void varintsOfInnerKeys() {
    end("127", whole(1, 127, 20000), 2, 4, 127);
    end("128", whole(1, 128, 20000), 2, 4, 129, 0);
    end("16383", whole(1, 16383, 20000), 2, 4, 255, 127);
    end("16384", whole(1, 16384, 20000), 2, 4, 129, 128, 0);
    end("999999", whole(1, 999999, 1000000), 2, 4, 189, 132, 63);
  }

  // "the integer 0 has 8, 1 has 9, others 1 if they are -128 .. 127, 2 if -32768 .. 32767, 4 if they are ints, else 6"
  private static void codesAndValues() {
    codeAndValue(0, 8);
    codeAndValue(1, 9);
    codeAndValue(2, 1, 2);
    codeAndValue(-1, 1, 255);
    codeAndValue(127, 1, 127);
    codeAndValue(128, 2, 0, 128);
    codeAndValue(-128, 1, 128);
    codeAndValue(-129, 2, 255, 127);
    codeAndValue(32767, 2, 127, 255);
    codeAndValue(32768, 4, 0, 0, 128, 0);
    codeAndValue(-32768, 2, 128, 0);
    codeAndValue(-32769, 4, 255, 255, 127, 255);
    codeAndValue(2147483647L, 4, 127, 255, 255, 255);
    codeAndValue(2147483648L, 6, 0, 0, 0, 0, 128, 0, 0, 0);
    codeAndValue(-2147483648L, 4, 128, 0, 0, 0);
    codeAndValue(-2147483649L, 6, 255, 255, 255, 255, 127, 255, 255, 255);
    codeAndValue(4294967296L, 6, 0, 0, 0, 1, 0, 0, 0, 0);
    codeAndValue(4294967297L, 6, 0, 0, 0, 1, 0, 0, 0, 1);
    codeAndValue(Long.MAX_VALUE, 6, 127, 255, 255, 255, 255, 255, 255, 255);
    codeAndValue(Long.MIN_VALUE, 6, 128, 0, 0, 0, 0, 0, 0, 0);
  }

  private static void codeAndValue(long v, int code, int... value) {
    int[] cell = new int[4 + value.length];
    System.arraycopy(new int[] {2 + value.length, 9, 2, code}, 0, cell, 0, 4);
    System.arraycopy(value, 0, cell, 4, value.length);
    RowFile file = one(9, v);
    end("the cell of " + v, file, 2, cell);
    Due.due("the code of " + v, code, file.code(9, 0));
    Due.due("the value", v, file.value(9, 0, 0));
    canBeOpened("the integer " + v, file);
    Due.due("the value again", v, file.value(9, 0, 0));
  }

  // "the varint of how many bytes this and the codes are together"
  private static void recordHeads() {
    int[][] sizes = {{57}, {58}, {57, 57}, {57, 58}, {58, 58}, {57, 57, 57}, {0, 57, 58}, {58, 0, 58}, {58, 58, 58}};
    int[] heads = {2, 3, 3, 4, 5, 4, 5, 6, 7};
    for (int i = 0; i < sizes.length; i++) {
      RowFile file = new RowFile();
      Drafts.blobs(file, sizes[i]);
      file.insert(1);
      Due.due("the head", heads[i], file.octet(2, 47, false));
      Due.due("the first value behind it", 1, file.octet(2, 47 + heads[i], false));
      canBeOpened("a head of " + heads[i], file);
    }
  }

  // "The FILE has pages 1, 2, .., at most 24, of 64 bytes."
  private static void pages() {
    RowFile file = new RowFile();
    Drafts.almostFull(file, 0, 1);
    Due.due("page 23", true, file.octet(23, 63, false) >= 0);
    Due.due("no page 24 yet", -1, file.octet(24, 0, false));
    Due.due("the 24th is taken", 1, Drafts.insert(file, 1, 2));
    Due.due("page 24", 0, file.octet(24, 0, false));
    Due.due("its last byte", 76, file.octet(24, 63, false));
    Due.due("none behind it", -1, file.octet(24, 64, false));
    Due.due("the 25th is not", -2, Drafts.insert(file, 1, 0));
    Due.due("no page 25", -1, file.octet(25, 0, false));
    Due.due("PAGES", 24, file.octet(1, 1, false));
  }

  // "2 the first FREE page (0: none); 3 how many FREE ones"; "FREE page: byte 0 the next free one (0: none)."
  private static void freePages() {
    RowFile file = new RowFile();
    bytes("none", file, 1, 2, 0, 0);
    Drafts.insert(file, 2, 1);
    bytes("none", file, 1, 2, 0, 0);
    file.remove(1);
    bytes("two", file, 1, 2, 4, 2);
    bytes("the next one", file, 4, 0, 3);
    bytes("none behind it", file, 3, 0, 0);
    zeros("their other bytes", file, 3, 1, 63);
    zeros("their other bytes", file, 4, 1, 63);
    Drafts.insert(file, 1, 1);
    bytes("one", file, 1, 2, 3, 1);
    Drafts.insert(file, 1, 2);
    bytes("none again", file, 1, 1, 4, 0, 0);
    Drafts.insert(file, 1, 3);
    bytes("a new one", file, 1, 1, 5, 0, 0);
  }

  // "The cell with the least key ends with byte 63, each other one ends just before the PLACE of the one before."
  private static void cellsFromTheEnd() {
    RowFile file = one(50, 0);
    end("one cell", file, 2, 2, 50, 2, 8);
    Drafts.number(file, 5);
    file.insert(200);
    bytes("a greater one stands ahead of it", file, 2, 54, 3, 129, 72, 2, 1, 5, 2, 50, 2, 8);
    bytes("the places", file, 2, 0, 13, 2, 0, 0, 60, 54, 0);
    file.insert(0);
    bytes("a less one behind them", file, 2, 49, 3, 129, 72, 2, 1, 5, 2, 50, 2, 8, 3, 0, 2, 1, 5);
    bytes("the places", file, 2, 0, 13, 3, 0, 0, 59, 55, 49, 0);
    file.insert(51);
    bytes("one between them", file, 2, 44, 3, 129, 72, 2, 1, 5, 3, 51, 2, 1, 5, 2, 50, 2, 8);
    bytes("the places", file, 2, 0, 13, 4, 0, 0, 59, 55, 50, 44, 0);
    zeros("the other bytes", file, 2, 8, 43);
  }

  // "A page has room if places and cells are 60 bytes or less."
  private static void roomOfLeaf() {
    RowFile file = whole(1, 2);
    Drafts.number(file, 0);
    file.insert(16383);
    bytes("60 bytes", file, 2, 0, 13, 3, 0, 0, 38, 12, 7, 2, 255, 127, 2, 8);
    Due.due("no page was taken", 2, file.octet(1, 1, false));
    canBeOpened("60 bytes", file);
    RowFile over = whole(1, 2);
    Drafts.number(over, 0);
    over.insert(16384);
    bytes("61 bytes: ROOT", over, 2, 0, 5, 1, 3, 0, 62, 0);
    bytes("61 bytes: what stays", over, 3, 0, 13, 1, 0, 0, 58, 0);
    bytes("61 bytes: r", over, 4, 0, 13, 2, 0, 0, 38, 12, 0);
    Due.due("two pages were taken", 4, over.octet(1, 1, false));
    canBeOpened("61 bytes", over);
    RowFile small = new RowFile();
    small.number(0);
    for (int key = 0; key < 12; key++) small.insert(key);
    bytes("twelve of the smallest cells", small, 2, 0, 13, 12, 0, 0, 60);
    Due.due("no page was taken", 2, small.octet(1, 1, false));
    small.insert(12);
    bytes("r gets twelve", small, 4, 0, 13, 12);
    bytes("one stays", small, 3, 0, 13, 1);
  }

  // "from the first one on, it gets as many as it has room for, the others stay"
  private static void roomOfSplitLeaf() {
    RowFile just = whole(1, 2);
    Drafts.number(just, 0);
    just.insert(16383);
    just.insert(20000);
    bytes("r gets 60 bytes", just, 4, 0, 13, 3, 0, 0, 38, 12, 7);
    bytes("the fourth stays", just, 3, 0, 13, 1, 0, 0, 58, 0);
    end("the greatest key of r", just, 2, 4, 255, 127);
    RowFile over = whole(1, 2);
    Drafts.number(over, 0);
    over.insert(16383);
    over.insert(200);
    bytes("r gets 60 bytes, the new one is among them", over, 4, 0, 13, 3, 0, 0, 38, 12, 7);
    end("the greatest key of r", over, 2, 4, 129, 72);
    RowFile first = whole(1, 2);
    Drafts.number(first, 0);
    first.insert(16383);
    Drafts.ofLength(first, 24);
    first.insert(0);
    bytes("r gets the new one and the first", first, 4, 0, 13, 2, 0, 0, 38, 12, 0);
    bytes("the others stay", first, 3, 0, 13, 2, 0, 0, 38, 33, 0);
    end("the greatest key of r", first, 2, 4, 1);
    RowFile ahead = whole(10, 20, 30, 40);
    ahead.insert(5);
    bytes("a leaf below ROOT is split", ahead, 2, 0, 5, 2, 3, 0, 62, 60, 0);
    bytes("r's cell comes ahead of it", ahead, 2, 60, 4, 20, 5, 10);
    bytes("r", ahead, 5, 0, 13, 2, 0, 0, 38, 12);
    bytes("one stays", ahead, 4, 0, 13, 1, 0, 0, 38, 0);
    ahead.insert(50);
    bytes("r's cell comes ahead of LAST", ahead, 2, 58, 6, 40, 4, 20, 5, 10);
    bytes("LAST", ahead, 2, 0, 5, 3, 3);
  }

  /** Cells of inner pages with a place: 4 bytes for a key of two bytes, 5 for one of three. */
  private static void roomOfInnerPage() {
    RowFile just = innerCells(5, 8);
    bytes("60 bytes", just, 2, 0, 5, 13, 3, 0, 61, 58, 55, 52, 49, 45, 41, 37, 33, 29, 25, 21, 17, 16);
    Due.due("PAGES", 16, just.octet(1, 1, false));
    canBeOpened("60 bytes", just);
    RowFile over = innerCells(4, 9);
    bytes("61 bytes: ROOT", over, 2, 0, 5, 1, 17, 0, 60, 0);
    bytes("61 bytes: r has all but the last of twelve", over, 18, 0, 5, 11, 15, 0, 61, 58, 55, 52, 48);
    bytes("61 bytes: one stays", over, 17, 0, 5, 1, 3, 0, 60, 0);
    Due.due("PAGES", 18, over.octet(1, 1, false));
    canBeOpened("61 bytes", over);
    RowFile most = wholeFrom(1, 41);
    bytes("twenty of the smallest cells", most, 2, 0, 5, 20, 3, 0, 62);
    bytes("twenty of the smallest cells", most, 2, 23, 24, 23, 40);
    Due.due("PAGES", 23, most.octet(1, 1, false));
    canBeOpened("twenty cells", most);
    Due.due("42 rows", 1, most.insert(42));
    Due.due("one more cell takes three pages", -2, most.insert(43));
  }

  /** ROOT gets a cell for each two rows, so many with a key of two bytes and of three. */
  private static RowFile innerCells(int two, int three) {
    RowFile file = whole();
    for (int i = 0; i < 2 * two; i++) Due.due("row", 1, file.insert(1000 + i));
    for (int i = 0; i <= 2 * three; i++) Due.due("row", 1, file.insert(100000 + i));
    return file;
  }

  // "and the record, if it has at most 24 bytes; otherwise its first 16 bytes and a page"
  private static void wholeRecords() {
    RowFile file = new RowFile();
    int[] record = Drafts.ofLength(file, 24);
    file.insert(7);
    bytes("24 bytes", file, 2, 38, 24, 7);
    bytes("24 bytes", file, 2, 40, record);
    Due.due("no page was taken", 2, file.octet(1, 1, false));
    RowFile chained = new RowFile();
    record = Drafts.ofLength(chained, 25);
    chained.insert(7);
    bytes("25 bytes", chained, 2, 45, 25, 7);
    bytes("25 bytes", chained, 2, 47, java.util.Arrays.copyOf(record, 16));
    bytes("25 bytes", chained, 2, 63, 3);
    bytes("the others", chained, 3, 0, 0);
    bytes("the others", chained, 3, 1, java.util.Arrays.copyOfRange(record, 16, 25));
    zeros("the others", chained, 3, 10, 63);
    Due.due("one page was taken", 3, chained.octet(1, 1, false));
  }

  // "A page of a chain: byte 0 the next one (0: none); from 1 on the next 63 bytes of the record, or what is left."
  private static void chains() {
    int[] lengths = {25, 78, 79, 80, 81, 142, 143, 205, 206, 268, 269, 307};
    int[] pages = {1, 1, 1, 2, 2, 2, 3, 3, 4, 4, 5, 5};
    for (int i = 0; i < lengths.length; i++) {
      RowFile file = new RowFile();
      int[] record = Drafts.ofLength(file, lengths[i]);
      String name = "a record of " + lengths[i];
      Due.due(name, 1, file.insert(7));
      Due.due(name + ": PAGES", 2 + pages[i], file.octet(1, 1, false));
      Due.due(name + ": the first page", 3, file.octet(2, 63, false));
      for (int p = 0; p < pages[i]; p++) {
        bytes(name, file, 3 + p, 0, p + 1 < pages[i] ? 4 + p : 0);
        int from = 16 + 63 * p;
        int to = Math.min(lengths[i], from + 63);
        bytes(name, file, 3 + p, 1, java.util.Arrays.copyOfRange(record, from, to));
        zeros(name, file, 3 + p, 1 + to - from, 63);
      }
      canBeOpened(name, file);
      file.remove(7);
      Due.due(name + ": all of them are freed", pages[i], file.octet(1, 3, false));
      Due.due(name + ": the last one is the first of the list", 2 + pages[i], file.octet(1, 2, false));
    }
  }

  /** Bytes of which nothing is said are 0, whatever row was there before. */
  private static void chainsBehindLongerOnes() {
    for (int length : new int[] {25, 78, 80, 142}) {
      RowFile file = new RowFile();
      Drafts.insert(file, 5, 1);
      file.remove(1);
      Drafts.ofLength(file, length);
      file.insert(2);
      int pages = length <= 79 ? 1 : 2;
      Due.due("the first page", 7, file.octet(2, 63, false));
      bytes("the next page", file, 7, 0, pages == 1 ? 0 : 6);
      zeros("behind the record", file, 8 - pages, length - 16 - 63 * (pages - 1) + 1, 63);
      zeros("ahead of the cell", file, 2, 5, length < 128 ? 44 : 43);
      canBeOpened("behind a longer one, a record of " + length, file);
    }
  }

  // "at an inner page to the child of the first cell whose key is not less, else to LAST"
  private static void keysLeadToChildOrLast() {
    RowFile file = whole(10, 20, 40);
    file.remove(20);
    Drafts.number(file, 0);
    file.insert(20);
    bytes("the key of the cell", file, 4, 0, 13, 2);
    file.insert(21);
    bytes("one more", file, 3, 0, 13, 2);
    file.insert(19);
    bytes("one less", file, 4, 0, 13, 3);
    RowFile three = whole(10, 20, 30, 40, 50);
    bytes("three leaves", three, 2, 60, 5, 40, 4, 20);
    three.remove(20);
    three.remove(30);
    Drafts.number(three, 0);
    three.insert(20);
    bytes("to the first one whose key is not less", three, 4, 0, 13, 2);
    three.insert(21);
    bytes("to the next one", three, 5, 0, 13, 2);
    three.insert(0);
    bytes("the least key", three, 4, 0, 13, 3);
    three.insert(1000000);
    bytes("the greatest key", three, 3, 0, 13, 2);
    canBeOpened("keys at the boundary", three);
  }

  // "the first free one, which is out of the list then; if there is none, a new one behind the last"
  private static void firstFreePage() {
    RowFile file = new RowFile();
    Drafts.insert(file, 1, 1);
    Drafts.insert(file, 1, 2);
    file.remove(1);
    file.remove(2);
    bytes("the one that was freed last is the first", file, 1, 1, 4, 4, 2);
    Drafts.insert(file, 3, 3);
    Due.due("first of the chain", 4, file.octet(2, 63, false));
    bytes("then the next one of the list, then a new one", file, 4, 0, 3);
    bytes("then the next one of the list, then a new one", file, 3, 0, 5);
    bytes("then the next one of the list, then a new one", file, 5, 0, 0);
    bytes("the list", file, 1, 1, 5, 0, 0);
    RowFile split = whole(1, 2);
    Drafts.insert(split, 1, 0);
    bytes("the chain is taken first, then ROOT's page, then r", split, 1, 1, 5, 0, 0);
    bytes("the chain", split, 3, 0, 0, 14);
    bytes("ROOT", split, 2, 0, 5, 1, 4, 0, 62);
    bytes("r", split, 2, 62, 5, 1);
  }

  // "As long as the page in hand has no room, it is SPLIT"
  private static void splitsUpToRoot() {
    RowFile file = wholeFrom(100000, 26);
    bytes("ROOT has twelve cells", file, 2, 0, 5, 12, 3, 0, 60);
    file.insert(100026);
    bytes("a leaf, then ROOT: it has one cell", file, 2, 0, 5, 1, 17, 0, 60, 0);
    Due.due("three pages were taken", 18, file.octet(1, 1, false));
    RowFile room = wholeFrom(100000, 26);
    room.remove(100025);
    room.insert(100026);
    bytes("the leaf has room: ROOT stays as it is", room, 2, 0, 5, 12, 3, 0, 60);
    Due.due("no page was taken", 15, room.octet(1, 1, false));
    RowFile below = wholeFrom(100000, 24);
    bytes("ROOT has room for one cell", below, 2, 0, 5, 11, 3, 0, 60);
    below.insert(100024);
    bytes("a leaf only", below, 2, 0, 5, 12, 3, 0, 60);
    Due.due("one page was taken", 15, below.octet(1, 1, false));
  }

  // "its child is r's LAST .. comes into the page above, ahead of what leads to the page in hand"
  private static void splitsBelowRoot() {
    RowFile file = whole();
    for (int i = 0; i < 27; i++) file.insert(100000 + 10 * i);
    end("ROOT has one cell", file, 2, 18, 134, 143, 6);
    bytes("its child has eleven", file, 18, 0, 5, 11, 15, 0, 60);
    file.insert(100001);
    bytes("twelve have room", file, 18, 0, 5, 12, 15, 0, 60);
    file.insert(100002);
    Due.due("PAGES", 19, file.octet(1, 1, false));
    file.insert(100003);
    Due.due("the leaf and the inner page are split, ROOT is not", 21, file.octet(1, 1, false));
    bytes("ROOT has two cells", file, 2, 0, 5, 2, 17, 0, 60, 56, 0);
    bytes("r's cell is ahead of the other one", file, 2, 56, 18, 134, 143, 6, 21, 134, 142, 94);
    bytes("r has eleven", file, 21, 0, 5, 11, 13, 0, 60);
    bytes("one stays", file, 18, 0, 5, 1, 15, 0, 60, 0);
    end("one stays", file, 18, 14, 134, 142, 114);
    canBeOpened("an inner page below ROOT is split", file);
  }

  // "If the leaf has no cell and is not ROOT, it is freed"
  private static void leafOfRootStays() {
    RowFile file = one(5, 7);
    Due.due("removed", 1, file.remove(5));
    bytes("ROOT has no cell", file, 2, 0, 13, 0);
    zeros("and nothing else", file, 2, 2, 63);
    bytes("no page is free", file, 1, 0, 83, 2, 0, 0, 0, 0, 2);
    Due.due("as at first", 0, file.commit());
  }

  private static void leafIsFreed() {
    RowFile file = whole(10, 20, 30, 40, 50);
    file.remove(30);
    bytes("one cell is left", file, 5, 0, 13, 1, 0, 0, 38, 0);
    bytes("nothing is freed", file, 1, 1, 5, 0, 0);
    file.remove(40);
    bytes("none is left: it is freed", file, 1, 1, 5, 5, 1);
    zeros("all its bytes", file, 5, 0, 63);
    bytes("the page above loses its cell", file, 2, 0, 5, 1, 3, 0, 62, 0);
    end("the other one stays", file, 2, 4, 20);
    RowFile first = whole(10, 20, 30, 40, 50);
    first.remove(20);
    first.remove(10);
    bytes("the first one's cell", first, 2, 0, 5, 1, 3, 0, 62, 0);
    end("the other one moves to the end", first, 2, 5, 40);
    canBeOpened("the first leaf is freed", first);
  }

  // "if it is LAST there, that page loses its last cell, whose child becomes LAST"
  private static void lastLeafIsFreed() {
    RowFile file = whole(10, 20, 30, 40, 50);
    file.remove(50);
    bytes("the child of the last cell is LAST", file, 2, 0, 5, 1, 5, 0, 62, 0);
    end("the first cell stays", file, 2, 4, 20);
    zeros("the other bytes", file, 2, 5, 61);
    bytes("the list", file, 1, 1, 5, 3, 1);
    Drafts.number(file, 0);
    file.insert(50);
    bytes("greater keys lead there", file, 5, 0, 13, 3);
    canBeOpened("LAST is freed", file);
  }

  // "If the page above has no cells then: if it is ROOT, it gets all that its LAST has, and that is freed"
  private static void rootGetsItsLast() {
    RowFile file = whole(10, 20, 30, 40, 50);
    file.remove(50);
    bytes("one cell is left: it stays", file, 2, 0, 5, 1);
    file.remove(10);
    file.remove(20);
    bytes("none is left", file, 2, 0, 13, 2, 0, 0, 38, 12, 0);
    bytes("its cells", file, 2, 12, 24, 40, 2, 56, 1);
    bytes("the list: LAST, then the leaf, then the one before", file, 1, 1, 5, 5, 3);
    bytes("the list", file, 5, 0, 4, 0);
    bytes("the list", file, 4, 0, 3, 0);
    zeros("the list", file, 3, 0, 63);
    canBeOpened("ROOT is a leaf again", file);
    RowFile last = whole(10, 20, 30);
    last.remove(30);
    bytes("LAST is removed", last, 2, 0, 13, 2, 0, 0, 38, 12, 0);
    bytes("its cells", last, 2, 12, 24, 20, 2, 56, 1);
    bytes("the leaf is freed first", last, 1, 1, 4, 4, 2);
    bytes("the leaf is freed first", last, 4, 0, 3);
    RowFile inner = wholeFrom(100000, 27);
    for (int key = 100024; key <= 100026; key++) inner.remove(key);
    bytes("it gets an inner page", inner, 2, 0, 5, 11, 15, 0, 60);
    canBeOpened("ROOT gets an inner page", inner);
  }

  // "otherwise what leads to it leads to its LAST, and it is freed"
  private static void innerPageIsFreed() {
    RowFile file = wholeFrom(100000, 29);
    bytes("ROOT's LAST has two cells", file, 17, 0, 5, 2, 3);
    file.remove(100028);
    bytes("one is left: it stays", file, 17, 0, 5, 1, 19);
    bytes("ROOT leads to it", file, 2, 0, 5, 1, 17);
    file.remove(100027);
    file.remove(100026);
    bytes("none is left: ROOT leads to its LAST", file, 2, 0, 5, 1, 16);
    bytes("the leaf is freed, then the inner page", file, 1, 1, 19, 17, 3);
    bytes("the list", file, 17, 0, 19, 0);
    bytes("the list", file, 19, 0, 3, 0);
    canBeOpened("an inner page is freed", file);
    RowFile child = wholeFrom(100000, 27);
    for (int key = 100000; key < 100020; key++) child.remove(key);
    bytes("ROOT's child has one cell: it stays", child, 18, 0, 5, 1, 15);
    child.remove(100020);
    end("ROOT's cell", child, 2, 18, 134, 141, 55);
    child.remove(100021);
    end("none is left: the cell leads to its LAST", child, 2, 15, 134, 141, 55);
    Due.due("the inner page is the first of the list", 18, child.octet(1, 2, false));
    canBeOpened("a child is freed", child);
  }

  // "TO COMMIT: nothing, if no page is different from the disk's."
  private static void pagesThatAreDifferent() {
    RowFile file = new RowFile();
    Due.due("none", 0, file.commit());
    Drafts.insert(file, 1, 5);
    Due.due("two that were there, one that was not", 3, file.commit());
    file.remove(5);
    Drafts.insert(file, 1, 5);
    Due.due("as it was", 0, file.commit());
    Due.due("CHANGES stays", 1, file.octet(1, 5, false));
    Drafts.insert(file, 0, 6);
    Due.due("one and page 1", 2, file.commit());
    file.remove(6);
    Due.due("one and page 1", 2, file.commit());
    Due.due("CHANGES", 3, file.octet(1, 5, true));
    Drafts.insert(file, 2, 6);
    file.remove(6);
    Due.due("page 1 and two new ones, and none of the rows", 3, file.commit());
    RowFile first = new RowFile();
    Drafts.insert(first, 1, 1);
    Drafts.insert(first, 1, 2);
    first.remove(1);
    first.remove(2);
    first.commit();
    Drafts.insert(first, 1, 1);
    Drafts.insert(first, 1, 2);
    first.remove(1);
    first.remove(2);
    Due.due("page 1 and two, of which the first byte is another one", 3, first.commit());
    RowFile last = one(5, 6);
    last.commit();
    last.remove(5);
    Drafts.number(last, 7);
    last.insert(5);
    Due.due("page 1 and one, of which the last byte is another one", 2, last.commit());
  }

  // "CHANGES is one more (0 behind 65535)"
  private static void changesCount() {
    int[][] steps = {{0, 0, 0, 1}, {0, 254, 0, 255}, {0, 255, 1, 0}, {127, 255, 128, 0}, {255, 254, 255, 255},
      {255, 255, 0, 0}};
    for (int[] step : steps) {
      RowFile file = new RowFile();
      file.crash();
      file.spoil(1, 4, step[0]);
      file.spoil(1, 5, step[1]);
      Due.due("any CHANGES", 0, file.open());
      Due.due("nothing", 0, file.commit());
      bytes("they stay", file, 1, 4, step[0], step[1], 2);
      Drafts.insert(file, 0, 5);
      bytes("ahead of the commit", file, 1, 4, step[0], step[1], 2);
      Due.due("commit", 2, file.commit());
      bytes("one more", file, 1, 0, 83, 2, 0, 0, step[2], step[3], 2);
      Due.due("on the disk", step[2], file.octet(1, 4, true));
      Due.due("on the disk", step[3], file.octet(1, 5, true));
      canBeOpened("CHANGES", file);
    }
  }

  // "a record of it as it is on the disk; HEAD; each page that is different, by number; HEAD is not there any more"
  private static void writesOfCommit() {
    for (int k = 0; k <= 8; k++) {
      RowFile file = new RowFile();
      Drafts.insert(file, 2, 5);
      file.arm(k);
      Due.due("two records, HEAD, four pages, HEAD: armed with " + k, k < 8 ? -3 : 4, file.commit());
      Due.due("HEAD from the third write on", k >= 3 && k < 8 ? 1 : 0, file.journal(0));
      Due.due("PAGES as they were", k >= 3 && k < 8 ? 2 : 0, file.journal(1));
      Due.due("records", k >= 3 && k < 8 ? 2 : 0, file.journal(2));
      Due.due("CHANGES on the disk", k >= 3 ? 1 : 0, file.octet(1, 5, true));
      Due.due("page 2 on the disk", k >= 4 ? 1 : 0, file.octet(2, 1, true));
      Due.due("pages on the disk", k >= 7 ? 4 : k >= 6 ? 3 : 2, file.journal(3));
      if (k < 8) Due.due("open", 0, file.open());
      else Due.due("no write is left: it is armed with 0", 1, file.remove(5));
      if (k == 8) Due.due("the first write of the next commit", -3, file.commit());
    }
  }

  /** All 24 pages were there and are different: 24 records, HEAD, 24 pages, HEAD. */
  private static void longestCommit() {
    for (int k = 49; k <= 50; k++) {
      RowFile file = new RowFile();
      Drafts.almostFull(file, 0, 0);
      file.commit();
      int rows = file.rows();
      for (int i = 0; i < rows; i++) file.remove(file.key(0));
      file.arm(k);
      Due.due("armed with " + k, k < 50 ? -3 : 24, file.commit());
      Due.due("HEAD", k < 50 ? 1 : 0, file.journal(0));
      Due.due("records", k < 50 ? 24 : 0, file.journal(2));
      Due.due("PAGES as they were", k < 50 ? 24 : 0, file.journal(1));
      Due.due("the last page is written", 0, file.octet(24, 1, true));
      if (k < 50) Due.due("open", rows, file.open());
      else recordsOfEarlierCommit(file);
    }
  }

  /** The journal had all pages; in the next commit it has two. */
  private static void recordsOfEarlierCommit(RowFile file) {
    Due.due("no rows", 0, file.rows());
    String before = Seen.now(file);
    Drafts.insert(file, 0, 5);
    file.arm(5);
    Due.due("goes down", -3, file.commit());
    Due.due("two records", 2, file.journal(2));
    Due.due("open", 0, file.open());
    Due.same("no other page comes back", before, Seen.now(file));
  }

  // "If the machine is ARMED with 0 at a write, it goes down .. otherwise the number, if it is armed, is one less."
  private static void armedWithSixty() {
    for (int k = 59; k <= 60; k++) {
      RowFile file = new RowFile();
      file.number(3);
      Due.due("arm " + k, true, file.arm(k));
      for (int i = 0; i < 10; i++) {
        if (i % 2 == 0) file.insert(5);
        else file.remove(5);
        Due.due("commit " + i + " of six writes", i == 9 && k == 59 ? -3 : 2, file.commit());
      }
      Due.due("down at the sixtieth write", k == 59, file.crash() == false);
    }
  }

  // "or a page that was there, has its first 32 bytes from it"
  private static void tornPage() {
    for (int k = 4; k <= 7; k++) {
      RowFile file = new RowFile();
      filled(file, 0x11);
      file.commit();
      file.remove(5);
      filled(file, 0x77);
      file.arm(k);
      Due.due("goes down", -3, file.commit());
      for (int at = 1; at < 64; at++) {
        int due = k == 7 || k == 6 && at < 32 ? 0x77 : 0x11;
        Due.due("armed with " + k + ", byte " + at, due, file.octet(3, at, true));
      }
      for (int at = 50; at < 63; at++) Due.due("page 2", k >= 6 ? 0x77 : 0x11, file.octet(2, at, true));
      Due.due("page 1", 2, file.octet(1, 5, true));
      Due.due("open", 1, file.open());
      for (int i = 0; i < 76; i++) Due.due("the row as it was", 0x11, file.value(5, 0, i));
    }
  }

  /** A row whose chain is one full page. */
  private static void filled(RowFile file, int v) {
    file.clear();
    file.blob(false, 0, 0);
    for (int i = 0; i < 76; i++) file.blob(true, 1, v);
    file.insert(5);
  }

  // "(A page that was not there and is not written ends the file.)"
  private static void pageThatWasNotThere() {
    for (int k = 5; k <= 6; k++) {
      RowFile file = new RowFile();
      filled(file, 0x33);
      file.arm(k);
      Due.due("goes down", -3, file.commit());
      Due.due("the file's pages", k == 5 ? 2 : 3, file.journal(3));
      Due.due("its first byte", k == 5 ? -1 : 0, file.octet(3, 0, true));
      Due.due("its other bytes", k == 5 ? -1 : 0x33, file.octet(3, 1, true));
      Due.due("no such page", k == 6, file.spoil(3, 1, 5));
      Due.due("PAGES says more", 3, file.octet(1, 1, true));
      Due.due("open", 0, file.open());
      Due.due("the file ends again", 2, file.journal(3));
      Due.due("the file ends again", -1, file.octet(3, 0, true));
      filled(file, 0x44);
      Due.due("the page is new again", 3, file.commit());
      Due.due("its other bytes", 0x44, file.octet(3, 63, true));
    }
  }
}
