import java.util.function.Consumer;

/** Promise 11: files written byte by byte to the disk; those that are exactly as they must be are opened, no others. */
public final class RefusalsTest {
  public static void main(String[] args) {
    everyByte();
    firstPage();
    list();
    leafPages();
    leafThatIsRoot();
    keysOfLeaves();
    varints();
    recordsOfNumbers();
    recordsOfBlobs();
    recordHeads();
    chains();
    chainLengths();
    pagesTwice();
    innerPages();
    innerKeys();
    innerRoom();
    emptyPages();
    oddShapes();
    oddShapesAreUsed();
    deepestTree();
    Due.end();
  }

  private static int[] bytes(int... bytes) {
    return bytes;
  }

  /** Number by 1 up, as many as asked for, behind some first bytes. */
  private static int[] counted(int n, int... first) {
    int[] all = java.util.Arrays.copyOf(first, first.length + n);
    for (int i = 0; i < n; i++) all[first.length + i] = i + 1;
    return all;
  }

  private static void first(int[][] file, int free, int freeCount, int root) {
    int[] head = {83, file.length, free, freeCount, 0x12, 0x34, root};
    System.arraycopy(head, 0, file[0], 0, 7);
  }

  private static void page(int[][] file, int page, int mark, int last, int[][] cells) {
    int[] bytes = new int[64];
    bytes[0] = mark;
    bytes[1] = cells.length;
    bytes[2] = last;
    int end = 64;
    for (int i = 0; i < cells.length; i++) {
      end -= cells[i].length;
      bytes[4 + i] = end;
      System.arraycopy(cells[i], 0, bytes, end, cells[i].length);
    }
    file[page - 1] = bytes;
  }

  private static void leaf(int[][] file, int page, int[]... cells) {
    page(file, page, 13, 0, cells);
  }

  private static void inner(int[][] file, int page, int last, int[]... cells) {
    page(file, page, 5, last, cells);
  }

  /** A page of a chain, or (from and to 0) a free one. */
  private static void link(int[][] file, int page, int next, int from, int to) {
    int[] bytes = new int[64];
    bytes[0] = next;
    for (int v = from; v < to; v++) bytes[1 + v - from] = v;
    file[page - 1] = bytes;
  }

  /** A root with two leaves, a row with a chain of two pages, a free page. */
  private static int[][] good() {
    int[][] file = new int[7][64];
    first(file, 7, 1, 2);
    inner(file, 2, 4, bytes(3, 10));
    leaf(file, 3, bytes(5, 5, 4, 8, 9, 1, 2), bytes(4, 10, 2, 16, 7, 8));
    leaf(file, 4, counted(14, 103, 20, 3, 129, 84), bytes(6, 130, 44, 2, 4, 0, 1, 17, 112));
    file[3][63] = 5;
    link(file, 5, 6, 14, 77);
    link(file, 6, 0, 77, 101);
    link(file, 7, 0, 0, 0);
    return file;
  }

  /** One row, of this cell, in a file of one leaf. */
  private static int[][] one(int... cell) {
    int[][] file = new int[2][64];
    first(file, 0, 0, 2);
    leaf(file, 2, cell);
    return file;
  }

  /** A file of 2 to 24 pages. With more than 12, a third row splits the leaf, for which two pages are taken. */
  private static RowFile written(int[][] pages) {
    RowFile file = new RowFile();
    int split = pages.length > 12 ? 2 : 0;
    int left = pages.length - 2 - split;
    for (int key = 1; left > 0 || key <= 3 && split > 0; key++) {
      Drafts.insert(file, Math.min(left, 5), key);
      left -= Math.min(left, 5);
    }
    file.commit();
    file.crash();
    Due.due("the file has as many pages", pages.length, file.journal(3));
    for (int p = 1; p <= pages.length; p++) {
      for (int at = 0; at < 64; at++) {
        if (file.octet(p, at, true) != pages[p - 1][at]) file.spoil(p, at, pages[p - 1][at]);
      }
    }
    return file;
  }

  private static void opens(String what, int rows, int[][] pages) {
    RowFile file = written(pages);
    Due.due(what, rows, file.open());
    Due.due(what + ", rows", rows < 0 ? -3 : rows, file.rows());
    Due.due(what + ", head", 0, file.journal(0));
  }

  private static void refused(String what, Consumer<int[][]> change) {
    int[][] pages = good();
    change.accept(pages);
    opens(what, -1, pages);
  }

  private static void taken(String what, int rows, Consumer<int[][]> change) {
    int[][] pages = good();
    change.accept(pages);
    opens(what, rows, pages);
  }

  /** Each byte of the good file is another one; only some of them may be. */
  private static void everyByte() {
    opens("the good file", 4, good());
    for (int p = 1; p <= 7; p++) {
      for (int at = 0; at < 64; at++) {
        for (int v : new int[] {0, 1, 127, 128, 255, good()[p - 1][at] ^ 1, good()[p - 1][at] + 1}) {
          int[][] pages = good();
          if (v == pages[p - 1][at] || v > 255) continue;
          pages[p - 1][at] = v;
          opens("byte " + at + " of page " + p + " is " + v, mayBe(p, at, v) ? 4 : -1, pages);
        }
      }
    }
  }

  private static boolean mayBe(int p, int at, int v) {
    boolean changes = p == 1 && (at == 4 || at == 5);
    boolean innerKey = p == 2 && at == 63 && v >= 10 && v < 20;
    return changes || innerKey || leafThree(p, at, v) || leafFour(p, at, v) || link(p, at);
  }

  /** Its cells: 5 5 4 8 9 1 2 from byte 57 on, 4 10 2 16 7 8 from byte 51 on. */
  private static boolean leafThree(int p, int at, int v) {
    if (p != 3) return false;
    boolean keyOfFirst = at == 58 && v < 10;
    boolean zeroOrOne = (at == 60 || at == 61) && (v == 8 || v == 9);
    boolean small = at == 63 && v > 1;
    boolean keyOfSecond = at == 52 && v > 5 && v <= 10;
    return keyOfFirst || zeroOrOne || small || keyOfSecond || at == 55 || at == 56;
  }

  /** Its cells: 103 20 3 129 84 1 .. 13 5 from byte 45 on, 6 130 44 2 4 0 1 17 112 from byte 36 on. */
  private static boolean leafFour(int p, int at, int v) {
    if (p != 4) return false;
    boolean keyOfFirst = at == 46 && v > 10 && v < 128;
    boolean blob = at >= 50 && at < 63;
    boolean keyOfSecond = at == 37 && v > 128 || at == 38 && v < 128;
    boolean number = at == 41 || at == 42 && v != 0 || at == 43 || at == 44;
    return keyOfFirst || blob || keyOfSecond || number;
  }

  private static boolean link(int p, int at) {
    return p == 5 && at > 0 || p == 6 && at > 0 && at <= 24;
  }

  private static void firstPage() {
    refused("the mark", f -> f[0][0] = 0);
    refused("PAGES less", f -> f[0][1] = 6);
    refused("PAGES more", f -> f[0][1] = 8);
    taken("CHANGES 0", 4, f -> f[0][4] = f[0][5] = 0);
    taken("CHANGES 65535", 4, f -> f[0][4] = f[0][5] = 255);
    for (int root : new int[] {0, 1, 3, 4, 5, 7, 8, 25, 255}) refused("ROOT " + root, f -> f[0][6] = root);
    for (int at = 7; at < 64; at++) {
      int behind = at;
      refused("byte " + at + " of page 1", f -> f[0][behind] = 1);
    }
  }

  private static void list() {
    refused("none, but there is one", f -> f[0][2] = f[0][3] = 0);
    refused("too few", f -> f[0][3] = 0);
    refused("too many", f -> f[0][3] = 2);
    refused("far too many", f -> f[0][3] = 255);
    refused("it goes on to itself", f -> f[6][0] = 7);
    refused("it goes on to itself, counted so", f -> {
      f[6][0] = 7;
      f[0][3] = 2;
    });
    refused("it goes on to page 1", f -> {
      f[6][0] = 1;
      f[0][3] = 2;
    });
    refused("it goes on to a leaf", f -> {
      f[6][0] = 3;
      f[0][3] = 2;
    });
    refused("it goes on behind the file", f -> {
      f[6][0] = 8;
      f[0][3] = 2;
    });
    refused("a byte of a free page", f -> f[6][63] = 1);
    taken("three of them", 3, f -> {
      leaf(f, 4, bytes(6, 130, 44, 2, 4, 0, 1, 17, 112));
      first(f, 6, 3, 2);
      link(f, 6, 5, 0, 0);
      link(f, 5, 7, 0, 0);
    });
    opens("a list of all pages", 0, listed(24, 24));
    opens("the 24th page is nowhere", -1, listed(24, 23));
    refused("a page that is nowhere", f -> leaf(f, 4, bytes(6, 130, 44, 2, 4, 0, 1, 17, 112)));
  }

  /** An empty root, the pages from 3 on in the list, up to one. */
  private static int[][] listed(int pages, int end) {
    int[][] file = new int[pages][64];
    first(file, 3, end - 2, 2);
    leaf(file, 2);
    for (int p = 3; p < end; p++) link(file, p, p + 1, 0, 0);
    return file;
  }

  private static void leafPages() {
    refused("neither leaf nor inner", f -> f[2][0] = 6);
    refused("byte 2 of a leaf", f -> f[2][2] = 4);
    refused("byte 3 of a leaf", f -> f[2][3] = 1);
    refused("one cell less", f -> f[2][1] = 1);
    refused("one cell more", f -> f[2][1] = 3);
    refused("255 cells", f -> f[2][1] = 255);
    refused("the places turned", f -> {
      f[2][4] = 51;
      f[2][5] = 57;
    });
    refused("a byte between cells and the end", f -> {
      leaf(f, 3, bytes(5, 5, 4, 8, 9, 1, 2, 0), bytes(4, 10, 2, 16, 7, 8));
    });
    refused("a byte between two cells", f -> leaf(f, 3, bytes(5, 5, 4, 8, 9, 1, 2), bytes(4, 10, 2, 16, 7, 8, 0)));
    refused("a byte behind the places", f -> f[2][6] = 1);
    refused("a byte ahead of the cells", f -> f[2][50] = 1);
    refused("a cell that the page cuts off", f -> leaf(f, 3, bytes(5, 5, 4, 8, 9, 1), bytes(4, 10, 2, 16, 7, 8)));
    opens("a leaf with 59 bytes", 3, almostFull(bytes(2, 3, 2, 8)));
    opens("a leaf with 60 bytes", 3, almostFull(bytes(2, 129, 3, 2, 8)));
    int[][] over = one(6, 7, 2, 4, 0, 1, 17, 112);
    leaf(over, 2, counted(21, 23, 5, 2, 54), counted(21, 23, 6, 2, 54), bytes(6, 7, 2, 4, 0, 1, 17, 112));
    Due.due("the last place is its cell's first byte, too", 6, over[1][6]);
    opens("a leaf with 61 bytes", -1, over);
  }

  /** ROOT may have no cells: then every byte but the first must be 0. */
  private static void leafThatIsRoot() {
    int[][] file = one(2, 5, 2, 8);
    opens("one row", 1, file);
    for (int at : new int[] {2, 3, 5, 59}) {
      int[][] other = one(2, 5, 2, 8);
      other[1][at] = 1;
      opens("one row, byte " + at, -1, other);
    }
    for (int count : new int[] {0, 2, 30, 31, 255}) {
      int[][] other = one(2, 5, 2, 8);
      other[1][1] = count;
      opens("one row, " + count + " cells", -1, other);
    }
    for (int at = 0; at < 64; at++) {
      int[][] empty = one(2, 5, 2, 8);
      leaf(empty, 2);
      if (at > 0) empty[1][at] = 1;
      opens(at == 0 ? "no rows" : "no rows, byte " + at, at == 0 ? 0 : -1, empty);
    }
    for (int mark : new int[] {0, 5, 12, 14, 255}) {
      int[][] other = one(2, 5, 2, 8);
      other[1][0] = mark;
      opens("one row, a leaf with " + mark, -1, other);
      leaf(other, 2);
      other[1][0] = mark;
      opens("no rows, a leaf with " + mark, -1, other);
    }
  }

  /** Two cells of 27 bytes with their places, and a third one. */
  private static int[][] almostFull(int[] third) {
    int[][] file = one(third);
    leaf(file, 2, counted(22, 24, 1, 2, 56), counted(22, 24, 2, 2, 56), third);
    return file;
  }

  private static void keysOfLeaves() {
    refused("a key twice", f -> leaf(f, 3, bytes(5, 10, 4, 8, 9, 1, 2), bytes(4, 10, 2, 16, 7, 8)));
    refused("keys that fall", f -> leaf(f, 3, bytes(4, 10, 2, 16, 7, 8), bytes(5, 5, 4, 8, 9, 1, 2)));
    refused("greater than the page above says", f -> f[2][52] = 11);
    refused("not greater than the page above says", f -> f[3][46] = 10);
    refused("twice, in two leaves", f -> f[3][46] = 5);
    opens("key 0", 1, one(2, 0, 2, 8));
    opens("key 1000000", 1, one(2, 189, 132, 64, 2, 8));
    opens("key 1000001", -1, one(2, 189, 132, 65, 2, 8));
    opens("key of four bytes", -1, one(2, 129, 128, 128, 0, 2, 8));
    opens("key of five bytes", -1, one(2, 144, 128, 128, 128, 0, 2, 8));
  }

  private static void varints() {
    opens("a key as it must be", 1, one(2, 129, 0, 2, 8));
    opens("a key with a group too many", -1, one(2, 128, 5, 2, 8));
    opens("a key with two too many", -1, one(2, 128, 128, 5, 2, 8));
    opens("a length with a group too many", -1, one(128, 2, 5, 2, 8));
    opens("a head with a group too many", -1, one(3, 5, 128, 3, 8));
    opens("a code with a group too many", -1, one(3, 5, 3, 128, 8));
    opens("a varint that does not end", -1, one(2, 255, 255, 255));
    opens("a cell that is one byte", -1, one(2));
    opens("a length that does not end", -1, one(129));
  }

  private static void recordsOfNumbers() {
    opens("8", 1, one(2, 5, 2, 8));
    opens("9", 1, one(2, 5, 2, 9));
    opens("1: 2", 1, one(3, 5, 2, 1, 2));
    opens("1: -1", 1, one(3, 5, 2, 1, 255));
    opens("1: 0", -1, one(3, 5, 2, 1, 0));
    opens("1: 1", -1, one(3, 5, 2, 1, 1));
    opens("2: 128", 1, one(4, 5, 2, 2, 0, 128));
    opens("2: 127", -1, one(4, 5, 2, 2, 0, 127));
    opens("2: -128", -1, one(4, 5, 2, 2, 255, 128));
    opens("2: -129", 1, one(4, 5, 2, 2, 255, 127));
    opens("2: 0", -1, one(4, 5, 2, 2, 0, 0));
    opens("4: 32768", 1, one(6, 5, 2, 4, 0, 0, 128, 0));
    opens("4: 32767", -1, one(6, 5, 2, 4, 0, 0, 127, 255));
    opens("4: -32768", -1, one(6, 5, 2, 4, 255, 255, 128, 0));
    opens("4: -32769", 1, one(6, 5, 2, 4, 255, 255, 127, 255));
    opens("6: the first long", 1, one(10, 5, 2, 6, 0, 0, 0, 0, 128, 0, 0, 0));
    opens("6: the last int", -1, one(10, 5, 2, 6, 0, 0, 0, 0, 127, 255, 255, 255));
    opens("6: the least int", -1, one(10, 5, 2, 6, 255, 255, 255, 255, 128, 0, 0, 0));
    opens("6: one less", 1, one(10, 5, 2, 6, 255, 255, 255, 255, 127, 255, 255, 255));
    for (int code : new int[] {0, 3, 5, 7, 10, 11}) {
      for (int size = 0; size <= 8; size++) opens("code " + code, -1, one(counted(size, 2 + size, 5, 2, code)));
    }
    opens("a value too short", -1, one(3, 5, 2, 2, 1));
    opens("a value too long", -1, one(5, 5, 2, 2, 1, 1, 1));
    opens("8 with a value", -1, one(3, 5, 2, 8, 0));
  }

  private static void recordsOfBlobs() {
    opens("an empty one", 1, one(2, 5, 2, 12));
    opens("of one", 1, one(3, 5, 2, 14, 0));
    opens("code 13", -1, one(2, 5, 2, 13));
    opens("code 13", -1, one(3, 5, 2, 13, 0));
    opens("code 15", -1, one(3, 5, 2, 15, 0));
    opens("too short", -1, one(2, 5, 2, 14));
    opens("of 22", 1, one(counted(22, 24, 5, 2, 56)));
    opens("of 100", 1, long100(103, 84, 100));
    opens("of 101", -1, long100(104, 86, 101));
    opens("code 213", -1, long100(103, 85, 100));
  }

  /** A row that is one blob, its code of two bytes. */
  private static int[][] long100(int length, int code, int n) {
    int[][] file = new int[4][64];
    first(file, 0, 0, 2);
    leaf(file, 2, counted(14, length, 5, 3, 129, code));
    file[1][63] = 3;
    link(file, 3, 4, 14, 77);
    link(file, 4, 0, 77, n + 1);
    return file;
  }

  private static void recordHeads() {
    opens("no columns", -1, one(1, 5, 1));
    opens("no bytes", -1, one(0, 5));
    opens("head 0", -1, one(2, 5, 0, 8));
    opens("head 1", -1, one(2, 5, 1, 8));
    opens("head too long", -1, one(2, 5, 3, 8));
    opens("head longer than the record", -1, one(2, 5, 9, 8));
    opens("head 255", -1, one(2, 5, 255, 8));
    opens("two columns", 1, one(3, 5, 3, 8, 9));
    opens("three", 1, one(4, 5, 4, 8, 9, 12));
    opens("four", -1, one(5, 5, 5, 8, 9, 12, 8));
    opens("four, the last one's code where a value would end", -1, one(5, 5, 5, 8, 9, 14, 8));
    opens("three, the same bytes with a head less", 1, one(5, 5, 4, 8, 9, 14, 8));
    opens("a blob longer than the record, and no code behind it", -1, one(3, 5, 3, 20, 3));
    opens("a head that cuts a code", -1, one(3, 5, 2, 129, 84));
    opens("length too short for the cell", -1, one(2, 5, 3, 8, 9));
    opens("length too long for the cell", -1, one(4, 5, 3, 8, 9));
  }

  private static void chains() {
    refused("it begins at no page", f -> f[3][63] = 0);
    refused("it begins at page 1", f -> f[3][63] = 1);
    refused("it begins behind the file", f -> f[3][63] = 8);
    refused("it begins at its second page", f -> f[3][63] = 6);
    refused("it ends too soon", f -> f[4][0] = 0);
    refused("it goes in a ring", f -> f[5][0] = 5);
    refused("it goes to itself", f -> f[4][0] = 5);
    refused("it goes on too far", f -> {
      f[5][0] = 7;
      f[0][2] = f[0][3] = 0;
    });
    refused("it goes on to a leaf", f -> f[5][0] = 3);
    refused("a byte behind the record", f -> f[5][25] = 1);
    refused("the last byte behind the record", f -> f[5][63] = 1);
    refused("a page of it is free, too", f -> {
      f[6][0] = 6;
      f[0][3] = 2;
    });
    refused("two rows with one chain", f -> {
      leaf(f, 4, counted(14, 103, 20, 3, 129, 84), counted(14, 103, 21, 3, 129, 84));
      f[3][63] = f[3][44] = 5;
    });
    opens("a record of 24 bytes with a chain", -1, shortChain(24));
    opens("a record of 25 bytes with a chain", 1, shortChain(25));
    opens("a record of 79 bytes with one page", 1, shortChain(79));
    opens("a record of 80 bytes with one page", -1, shortChain(80));
    opens("a record of 25 bytes whole", -1, one(counted(23, 25, 5, 2, 58)));
    refused("a record longer than any row's", f -> {
      leaf(f, 4, counted(13, 134, 103, 20, 3, 129, 84));
      f[3][63] = 5;
    });
  }

  /** Both sides of each length at which a chain has a page more. */
  private static void chainLengths() {
    int[] lengths = {25, 79, 80, 142, 143, 205, 206, 268, 269, 307};
    int[] pages = {1, 1, 2, 2, 3, 3, 4, 4, 5, 5};
    for (int i = 0; i < lengths.length; i++) {
      String name = "a record of " + lengths[i];
      int last = 2 + pages[i];
      RowFile file = withFreePage(lengths[i]);
      Due.due(name, 1, file.open());
      file = withFreePage(lengths[i]);
      Due.due(name + ": the free page behind it", last + 1, file.octet(1, 2, true));
      file.spoil(1, 2, 0);
      file.spoil(1, 3, 0);
      file.spoil(last, 0, last + 1);
      Due.due(name + " with a page too many", -1, file.open());
      file = withFreePage(lengths[i]);
      for (int at = 1; at < 64; at++) file.spoil(last, at, 0);
      file.spoil(last, 0, last + 1);
      file.spoil(1, 2, last);
      file.spoil(1, 3, 2);
      file.spoil(pages[i] == 1 ? 2 : last - 1, pages[i] == 1 ? 63 : 0, 0);
      Due.due(name + " with a page too few", -1, file.open());
    }
  }

  /** One row, and a free page that is the last one; the machine is down. */
  private static RowFile withFreePage(int length) {
    RowFile file = new RowFile();
    Drafts.ofLength(file, length);
    file.insert(5);
    Drafts.insert(file, 1, 6);
    file.remove(6);
    file.commit();
    file.crash();
    return file;
  }

  /** Pages that would be right in each of the two places where they are. */
  private static void pagesTwice() {
    opens("a page of a chain and of the list", -1, chainedAndFree(1));
    opens("a page of a chain only", 1, chainedAndFree(0));
    opens("a page of a chain and of the tree", -1, chainedInner(4));
    opens("a page of a chain only, and one like it in the tree", 5, chainedInner(10));
    int[][] file = new int[3][64];
    first(file, 0, 0, 2);
    inner(file, 2, 3, bytes(3, 10));
    leaf(file, 3, bytes(2, 5, 2, 8));
    opens("a leaf that is child and LAST", -1, file);
    leaf(file, 3, bytes(2, 20, 2, 8));
    opens("a leaf that is LAST and child", -1, file);
    inner(file, 2, 3, bytes(2, 10));
    opens("a root that is its own child", -1, file);
  }

  /** A row of 25 bytes, whose page holds only zeros. */
  private static int[][] chainedAndFree(int free) {
    int[][] file = new int[3][64];
    first(file, 3 * free, free, 2);
    leaf(file, 2, counted(15, 25, 5, 2, 58));
    file[1][63] = 3;
    link(file, 3, 0, 0, 0);
    return file;
  }

  /** The chain of the least row begins with a page that is like an inner page. */
  private static int[][] chainedInner(int chain) {
    int[][] file = new int[chain == 4 ? 9 : 10][64];
    first(file, 0, 0, 2);
    inner(file, 2, 6, bytes(3, 10));
    leaf(file, 3, counted(14, 103, 10, 3, 129, 84));
    file[2][63] = chain;
    inner(file, 4, 9, bytes(8, 20));
    inner(file, chain, 9, bytes(8, 20));
    link(file, 5, 0, 77, 101);
    inner(file, 6, 7, bytes(4, 30));
    leaf(file, 7, bytes(2, 40, 2, 8));
    leaf(file, 8, bytes(2, 20, 2, 8));
    leaf(file, 9, bytes(2, 29, 2, 8), bytes(2, 30, 2, 8));
    return file;
  }

  /** A blob's record, 16 bytes of it in the leaf, the others in a page of a chain. */
  private static int[][] shortChain(int length) {
    int[][] file = new int[3][64];
    first(file, 0, 0, 2);
    int codeSize = length > 60 ? 2 : 1;
    int code = 12 + 2 * (length - 1 - codeSize);
    int inLeaf = 15 - codeSize;
    int[] head = codeSize == 1 ? bytes(length, 5, 2, code) : bytes(length, 5, 3, 128 + code / 128, code % 128);
    leaf(file, 2, counted(inLeaf + 1, head));
    file[1][63] = 3;
    link(file, 3, 0, inLeaf + 1, inLeaf + 1 + Math.min(length - 16, 63));
    return file;
  }

  private static void innerPages() {
    refused("no LAST", f -> f[1][2] = 0);
    refused("LAST is page 1", f -> f[1][2] = 1);
    refused("LAST is the child", f -> f[1][2] = 3);
    refused("LAST is itself", f -> f[1][2] = 2);
    refused("LAST is free", f -> f[1][2] = 7);
    refused("LAST is of a chain", f -> f[1][2] = 5);
    refused("LAST is behind the file", f -> f[1][2] = 8);
    refused("the child is page 1", f -> f[1][62] = 1);
    refused("the child is page 0", f -> f[1][62] = 0);
    refused("the child is itself", f -> f[1][62] = 2);
    refused("the child is LAST", f -> f[1][62] = 4);
    refused("the child is far away", f -> f[1][62] = 255);
    refused("byte 3 of an inner page", f -> f[1][3] = 1);
    refused("child and LAST turned", f -> inner(f, 2, 3, bytes(4, 10)));
    refused("a byte behind the place", f -> f[1][5] = 62);
    refused("a byte ahead of the cell", f -> f[1][61] = 1);
    refused("a cell too long", f -> inner(f, 2, 4, bytes(3, 10, 0)));
    refused("a cell too short", f -> inner(f, 2, 4, bytes(3)));
  }

  private static void innerKeys() {
    taken("the key of no row", 4, f -> f[1][63] = 19);
    refused("less than a key below", f -> f[1][63] = 9);
    refused("a key below LAST is not greater", f -> f[1][63] = 20);
    refused("a group too many", f -> inner(f, 2, 4, bytes(3, 128, 10)));
    refused("a key that does not end", f -> inner(f, 2, 4, bytes(3, 138)));
    int[][] three = new int[5][64];
    first(three, 0, 0, 2);
    inner(three, 2, 5, bytes(3, 10), bytes(4, 20));
    leaf(three, 3, bytes(2, 10, 2, 8));
    leaf(three, 4, bytes(2, 20, 2, 8));
    leaf(three, 5, bytes(2, 189, 132, 64, 2, 8));
    opens("three leaves", 3, three);
    inner(three, 2, 5, bytes(3, 10), bytes(4, 189, 132, 63));
    opens("the greatest key that can be there", 3, three);
    inner(three, 2, 5, bytes(3, 10), bytes(4, 189, 132, 64));
    opens("one more", -1, three);
    inner(three, 2, 5, bytes(3, 10), bytes(4, 189, 132, 65));
    opens("no key", -1, three);
    inner(three, 2, 5, bytes(4, 20), bytes(3, 10));
    opens("keys that fall", -1, three);
    inner(three, 2, 5, bytes(3, 20), bytes(4, 20));
    opens("a key twice", -1, three);
    inner(three, 2, 5, bytes(3, 20), bytes(4, 21));
    opens("not greater than the key of the cell before", -1, three);
  }

  /** So many cells with a key of two bytes and of three in an inner ROOT, a row in each leaf. */
  private static int[][] manyLeaves(int two, int three) {
    int cells = two + three;
    int[][] file = new int[cells + 3][64];
    first(file, 0, 0, 2);
    int[][] inner = new int[cells][];
    for (int i = 0; i < cells; i++) {
      inner[i] = i < two ? bytes(4 + i, 129, i) : bytes(4 + i, 134, 128, i);
      int[] row = i < two ? bytes(2, 129, i, 2, 8) : bytes(2, 134, 128, i, 2, 8);
      leaf(file, 4 + i, row);
    }
    inner(file, 2, 3, inner);
    leaf(file, 3, bytes(2, 134, 128, 127, 2, 8));
    return file;
  }

  private static void innerRoom() {
    opens("an inner page with 59 bytes", 14, manyLeaves(6, 7));
    opens("an inner page with 60 bytes", 14, manyLeaves(5, 8));
    int[][] over = manyLeaves(4, 9);
    Due.due("the last place is its cell's child, too", 16, over[1][16]);
    opens("an inner page with 61 bytes", -1, over);
  }

  private static void emptyPages() {
    refused("an empty leaf below", f -> leaf(f, 3));
    int[][] file = new int[4][64];
    first(file, 4, 1, 2);
    inner(file, 2, 3);
    leaf(file, 3, bytes(2, 5, 2, 8));
    opens("an inner root without cells", -1, file);
    leaf(file, 3);
    opens("an inner root without cells, nor rows", -1, file);
    leaf(file, 2);
    first(file, 4, 2, 2);
    link(file, 4, 3, 0, 0);
    link(file, 3, 0, 0, 0);
    opens("an empty root", 0, file);
    inner(file, 2, 2);
    opens("a root that leads to itself", -1, file);
    int[][] below = unlike();
    inner(below, 4, 5);
    link(below, 6, 0, 0, 0);
    first(below, 6, 1, 2);
    opens("an inner page below without cells", -1, below);
  }

  /** ROOT's child is a leaf, its LAST an inner page with two. */
  private static int[][] unlike() {
    int[][] file = new int[6][64];
    first(file, 0, 0, 2);
    inner(file, 2, 4, bytes(3, 10));
    leaf(file, 3, bytes(2, 10, 2, 8));
    inner(file, 4, 6, bytes(5, 20));
    leaf(file, 5, bytes(2, 20, 2, 9));
    leaf(file, 6, bytes(2, 30, 2, 12));
    return file;
  }

  private static void oddShapes() {
    opens("leaves at unlike depths", 3, unlike());
    int[][] low = unlike();
    inner(low, 4, 6, bytes(5, 9));
    opens("below LAST, a key is too low", -1, low);
    int[][] low2 = unlike();
    leaf(low2, 5, bytes(2, 10, 2, 9));
    opens("two pages below LAST, a key is too low", -1, low2);
    int[][] high = unlike();
    inner(high, 2, 3, bytes(4, 25));
    leaf(high, 3, bytes(2, 40, 2, 8));
    opens("two pages below a child, a key is too high", -1, high);
    leaf(high, 6, bytes(2, 25, 2, 12));
    opens("two pages below a child, a key is as high as can be", 3, high);
    int[][] moved = new int[4][64];
    first(moved, 2, 2, 4);
    leaf(moved, 4, bytes(2, 10, 2, 8));
    link(moved, 2, 3, 0, 0);
    opens("ROOT is not page 2", 1, moved);
    first(moved, 3, 1, 4);
    link(moved, 2, 0, 0, 0);
    opens("page 2 is nowhere", -1, moved);
    first(moved, 3, 2, 4);
    link(moved, 3, 2, 0, 0);
    opens("page 2 is the last of the list", 1, moved);
  }

  private static void oddShapesAreUsed() {
    int[][] pages = unlike();
    first(pages, 0, 0, 6);
    pages[5] = pages[1];
    leaf(pages, 2, bytes(2, 30, 2, 12));
    inner(pages, 4, 2, bytes(5, 25));
    RowFile file = written(pages);
    Due.due("opened", 3, file.open());
    Due.due("key", 30, file.key(2));
    Due.due("code", 12, file.code(30, 0));
    file.clear();
    file.number(5);
    Due.due("insert by a key that is no row's", 1, file.insert(25));
    Due.due("to the child", 2, file.octet(5, 1, false));
    Due.due("insert above it", 1, file.insert(26));
    Due.due("to LAST", 2, file.octet(2, 1, false));
    file.undo();
    Due.due("remove", 1, file.remove(30));
    Due.due("ROOT's LAST leads to what was left", 5, file.octet(6, 2, false));
    Due.due("the page above is freed last", 4, file.octet(1, 2, false));
    Due.due("the leaf first", 2, file.octet(4, 0, false));
    Due.due("two free ones", 2, file.octet(1, 3, false));
    Due.due("remove", 1, file.remove(10));
    Due.due("ROOT gets what is left", 13, file.octet(6, 0, false));
    Due.due("ROOT", 6, file.octet(1, 6, false));
    Due.due("four free ones", 4, file.octet(1, 3, false));
    Due.due("then LAST", 5, file.octet(1, 2, false));
    Due.due("the leaf before it", 3, file.octet(5, 0, false));
    Due.due("key", 20, file.key(0));
    Due.due("commit", 6, file.commit());
    file.crash();
    Due.due("opened again", 1, file.open());
  }

  /** Eleven inner pages, each with a leaf and the next one, which is LAST or not: with page 1, 24 pages. */
  private static int[][] deepest(boolean byLast) {
    int[][] pages = new int[24][64];
    first(pages, 0, 0, 2);
    for (int level = 0; level < 11; level++) {
      int below = level < 10 ? 3 + level : 24;
      int leafKey = byLast ? 10 * level + 10 : 120 - 10 * level;
      if (byLast) inner(pages, 2 + level, below, bytes(13 + level, leafKey));
      else inner(pages, 2 + level, 13 + level, bytes(below, leafKey - 1));
      leaf(pages, 13 + level, bytes(2, leafKey, 2, 8));
    }
    leaf(pages, 24, bytes(2, byLast ? 119 : 1, 2, 8));
    return pages;
  }

  private static void deepestTree() {
    opens("the deepest tree", 12, deepest(true));
    opens("the deepest tree by children", 12, deepest(false));
    RowFile file = written(deepest(true));
    file.open();
    for (int i = 0; i < 11; i++) Due.due("key " + i, 10 * i + 10, file.key(i));
    Due.due("the greatest key", 119, file.key(11));
    Drafts.number(file, 0);
    for (int key = 111; key <= 122; key++) file.insert(key);
    Due.due("the lowest leaf is full", 12, file.octet(24, 1, false));
    Due.due("it can't be split", -2, file.insert(123));
    Due.due("the highest leaf is removed", 1, file.remove(10));
    Due.due("ROOT gets all that its LAST has", 14, file.octet(2, 62, false));
    Due.due("two pages are free", 2, file.octet(1, 3, false));
    Due.due("now it can be split", 1, file.insert(123));
    Due.due("by one page", 1, file.octet(1, 3, false));
    int rows = file.rows();
    file.commit();
    file.crash();
    Due.due("it can be opened", rows, file.open());
    for (int i = 0; i < rows; i++) Due.due("remove", 1, file.remove(file.key(rows - 1 - i)));
    Due.due("ROOT is an empty leaf", 13, file.octet(2, 0, false));
    Due.due("all others are free", 22, file.octet(1, 3, false));
    for (int level = 1; level <= 10; level++) {
      removeAt(level, true);
      removeAt(level, false);
    }
  }

  /** The leaf of an inner page below ROOT is removed: what leads to that page leads to what is left. */
  private static void removeAt(int level, boolean byLast) {
    RowFile file = written(deepest(byLast));
    file.open();
    int inner = 2 + level;
    int left = level < 10 ? inner + 1 : 24;
    Due.due("remove", 1, file.remove(byLast ? 10 * level + 10 : 120 - 10 * level));
    Due.due("what leads to it", left, file.octet(inner - 1, byLast ? 2 : 62, false));
    Due.due("what does not", 12 + level, file.octet(inner - 1, byLast ? 62 : 2, false));
    Due.due("its key stays", byLast ? 10 * level : 129 - 10 * level, file.octet(inner - 1, 63, false));
    Due.due("it is the first free page", inner, file.octet(1, 2, false));
    Due.due("the leaf is the next one", 13 + level, file.octet(inner, 0, false));
    Due.due("and the last one", 0, file.octet(13 + level, 0, false));
    Due.due("four pages are different", 4, file.commit());
    file.crash();
    Due.due("it can be opened", 11, file.open());
  }
}
