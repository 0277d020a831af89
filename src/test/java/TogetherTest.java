/** Sentences of the document that show only where two parts of it meet. */
public final class TogetherTest {
  public static void main(String[] args) {
    chainThenLeafThenLast();
    chainThenLeafThenInnerPage();
    numbersInLeafAndChain();
    listInAnyOrder();
    undoToOpening();
    keysOfInnerPagesStay();
    twoObjects();
    lastOf512Calls();
    exampleOfReadme();
    Due.end();
  }

  private static void bytes(String what, RowFile file, int page, int at, int... want) {
    for (int i = 0; i < want.length; i++) {
      Due.due(what + ": byte " + (at + i) + " of page " + page, want[i], file.octet(page, at + i, false));
    }
  }

  /** The list of free pages is just this one. */
  private static void list(String what, RowFile file, int... pages) {
    Due.due(what + ": how many", pages.length, file.octet(1, 3, false));
    int at = file.octet(1, 2, false);
    for (int page : pages) {
      Due.due(what + ": the next one", page, at);
      at = file.octet(page, 0, false);
    }
    Due.due(what + ": its end", 0, at);
  }

  private static void canBeOpened(String what, RowFile file) {
    int rows = file.rows();
    file.commit();
    file.crash();
    Due.due(what + ": opened", rows, file.open());
  }

  // "the pages of its chain are freed, the first one first. If the leaf has no cell and is not ROOT, it is freed"
  private static void chainThenLeafThenLast() {
    RowFile file = new RowFile();
    Drafts.insert(file, 0, 10);
    Drafts.insert(file, 0, 20);
    Drafts.insert(file, 2, 30);
    bytes("the chain is 3 and 4, LAST 5, r 6", file, 2, 0, 5, 1, 5, 0, 62, 0);
    Due.due("the chain is 3 and 4", 3, file.octet(5, 63, false));
    Due.due("remove", 1, file.remove(30));
    list("the chain, the leaf, and what ROOT got", file, 6, 5, 4, 3);
    bytes("ROOT", file, 2, 0, 13, 2, 0, 0, 38, 12, 0);
    canBeOpened("ROOT got it", file);
  }

  private static void chainThenLeafThenInnerPage() {
    RowFile file = new RowFile();
    for (int key = 100000; key < 100026; key++) Drafts.insert(file, 0, key);
    Drafts.insert(file, 2, 100026);
    bytes("ROOT's LAST is an inner page with one cell", file, 2, 0, 5, 1, 19, 0, 60, 0);
    bytes("which leads to 18 and to the leaf with the chain", file, 19, 0, 5, 1, 3, 0, 60, 0);
    Due.due("remove", 1, file.remove(100026));
    list("the chain, the leaf, the inner page", file, 19, 3, 17, 16);
    bytes("ROOT's LAST is the leaf that is left", file, 2, 0, 5, 1, 18, 0, 60, 0);
    canBeOpened("the inner page is freed", file);
  }

  // "Numbers of several bytes stand with the highest byte first", "its first 16 bytes and a page"
  private static void numbersInLeafAndChain() {
    long v = 0x8172635445362718L;
    for (int n = 0; n <= 100; n++) {
      RowFile file = new RowFile();
      Drafts.blobs(file, n);
      file.number(v);
      file.blob(false, 0, 0);
      for (int i = 0; i < 100; i++) file.blob(true, 1, 200);
      Due.due("insert", 1, file.insert(5));
      Due.due("behind " + n + " bytes", v, file.value(5, 1, 0));
      int start = 1 + (n < 58 ? 1 : 2) + 1 + 2 + n;
      for (int i = 0; i < 8; i++) {
        Due.due("byte " + i + " behind " + n, v >> 56 - 8 * i & 255, recordByte(file, start + i));
      }
      Due.due("the blob behind it", 200, file.value(5, 2, 0));
      Due.due("the blob ahead of it", n, file.value(5, 0, n - 1));
      canBeOpened("a number behind " + n + " bytes", file);
      Due.due("behind " + n + " bytes again", v, file.value(5, 1, 0));
    }
  }

  /** Of the one row of a file, whose record has a chain. */
  private static int recordByte(RowFile file, int i) {
    if (i < 16) return file.octet(2, 47 + i, false);
    int page = file.octet(2, 63, false);
    for (int k = (i - 16) / 63; k > 0; k--) page = file.octet(page, 0, false);
    return file.octet(page, 1 + (i - 16) % 63, false);
  }

  // "TO TAKE A PAGE: the first free one": the list of a file that was opened may have any order
  private static void listInAnyOrder() {
    RowFile file = new RowFile();
    Drafts.insert(file, 3, 1);
    file.remove(1);
    file.commit();
    file.crash();
    file.spoil(1, 2, 4);
    file.spoil(4, 0, 5);
    file.spoil(5, 0, 3);
    Due.due("opened", 0, file.open());
    list("as it was written", file, 4, 5, 3);
    Drafts.insert(file, 2, 7);
    list("two are taken", file, 3);
    Due.due("the first one first", 4, file.octet(2, 63, false));
    bytes("then the next one", file, 4, 0, 5);
    bytes("the end", file, 5, 0, 0);
    file.remove(7);
    list("the first one is freed first", file, 5, 4, 3);
  }

  // "All is again as at the latest commit or opening."
  private static void undoToOpening() {
    RowFile file = new RowFile();
    Drafts.insert(file, 1, 5);
    file.commit();
    file.crash();
    file.spoil(3, 63, 77);
    file.spoil(1, 5, 9);
    Due.due("opened", 1, file.open());
    String opened = Seen.now(file);
    Drafts.insert(file, 2, 6);
    file.remove(5);
    file.undo();
    Due.same("as at the opening", opened, Seen.now(file));
    Due.due("with the byte that was spoiled", 77, file.octet(3, 63, false));
    Due.due("nothing is different", 0, file.commit());
    Drafts.insert(file, 0, 6);
    Due.due("a commit", 2, file.commit());
    String committed = Seen.now(file);
    file.remove(5);
    Drafts.insert(file, 3, 7);
    file.undo();
    Due.same("as at the commit", committed, Seen.now(file));
    Due.due("CHANGES", 10, file.octet(1, 5, false));
  }

  // "keys of inner pages need be no rows'"
  private static void keysOfInnerPagesStay() {
    RowFile file = new RowFile();
    for (int key = 10; key <= 30; key += 10) Drafts.insert(file, 0, key);
    bytes("the key that r got", file, 2, 62, 4, 20);
    file.remove(20);
    bytes("no row has it any more", file, 2, 62, 4, 20);
    canBeOpened("no row has it", file);
    Drafts.number(file, 0);
    Due.due("insert", 1, file.insert(19));
    bytes("to the child", file, 4, 0, 13, 2);
    Due.due("insert", 1, file.insert(21));
    bytes("to LAST", file, 3, 0, 13, 2);
    Due.due("the least of LAST is removed", 1, file.remove(21));
    Due.due("the greatest of the child is removed", 1, file.remove(19));
    bytes("it stays", file, 2, 0, 5, 1, 3, 0, 62, 0);
    bytes("it stays", file, 2, 62, 4, 20);
  }

  /** What is said of an object is said of it alone. */
  private static void twoObjects() {
    RowFile alone = new RowFile();
    RowFile file = new RowFile();
    RowFile other = new RowFile();
    for (int step = 0; step < 40; step++) {
      use(alone, step);
      use(file, step);
      use(other, 7 * step + 3);
    }
    Due.same("beside another one", Seen.now(alone), Seen.now(file));
    Due.same("beside another one, later", Seen.later(alone), Seen.later(file));
  }

  private static void use(RowFile file, int step) {
    Drafts.insert(file, step % 4, 1000 * (step % 17));
    if (step % 3 == 0) file.remove(1000 * (step % 13));
    if (step % 5 == 4) file.commit();
    if (step % 11 == 10) file.arm(step % 6);
    if (step % 7 == 6) file.undo();
    if (file.rows() < 0) file.open();
  }

  // "An object is used for at most 512 calls after it has been made"
  private static void lastOf512Calls() {
    RowFile file = new RowFile();
    file.number(-7);
    int calls = 1;
    for (int i = 0; calls < 505; i++) {
      Due.due("insert", 1, file.insert(i));
      Due.due("value", -7, file.value(i, 0, 0));
      Due.due("commit", 2, file.commit());
      Due.due("remove", 1, file.remove(i));
      Due.due("commit", 2, file.commit());
      Due.due("rows", 0, file.rows());
      calls += 6;
    }
    Due.due("505 calls", 505, calls);
    Due.due("506", 1, file.insert(1000000));
    Due.due("507", 2, file.commit());
    Due.due("508", true, file.crash());
    Due.due("509", 1, file.open());
    Due.due("510", 1000000, file.key(0));
    Due.due("511", 168 + 1, file.octet(1, 5, false));
    Due.due("512", -7, file.value(1000000, 0, 0));
  }

  private static void exampleOfReadme() {
    RowFile file = new RowFile();
    file.number(42);
    file.blob(false, 3, 0x616263);
    file.blob(true, 2, 0x6465);
    Due.due("insert", 1, file.insert(7));
    file.clear();
    Due.due("the number", 42, file.value(7, 0, 0));
    Due.due("a byte of the blob", 0x65, file.value(7, 1, 4));
    Due.due("pages that were different", 2, file.commit());
    file.arm(2);
    file.remove(7);
    Due.due("the third write", RowFile.DOWN, file.commit());
    Due.due("the row is there again", 1, file.open());
  }
}
