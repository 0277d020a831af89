import java.util.function.Consumer;
import java.util.function.Predicate;
import java.util.function.ToLongFunction;

/**
 * Promises 2 to 19: for each call, on both sides of every boundary that its sentence names, the last input that is
 * taken and the first one that is refused; and after a refused call all is as it is without it.
 */
public final class RefusedCallsTest {
  private static final int LEAST = Integer.MIN_VALUE;
  private static final int GREATEST = Integer.MAX_VALUE;

  public static void main(String[] args) {
    numberBehindThree();
    blobSizes();
    blobBehindThree();
    moreOfNoBlob();
    moreThanHundred();
    clearWhileDown();
    insertNoColumns();
    insertNoKey();
    insertTwice();
    insertFullByChain();
    insertFullByLeaf();
    insertFullByRoot();
    insertFullByChainAndSplit();
    insertOrder();
    removeNone();
    commitNothing();
    undoNothing();
    crashTwice();
    armNumbers();
    openWhileUp();
    openRefused();
    openRefusedWithHead();
    spoilWrong();
    spoilWhileUp();
    keysOfNone();
    columnsOfNone();
    codesOfNone();
    valuesOfNone();
    octetsOfNone();
    journalOfNone();
    callsWhileDown();
    Due.end();
  }

  /** A refused call: it answers so, and neither now nor later can it be seen that it was made. */
  private static void refused(String what, Consumer<RowFile> state, long want, ToLongFunction<RowFile> call) {
    RowFile file = new RowFile();
    RowFile without = new RowFile();
    state.accept(file);
    state.accept(without);
    Due.due(what, want, call.applyAsLong(file));
    Due.same(what + ": what is seen", Seen.now(without), Seen.now(file));
    Due.same(what + ": what shows later", Seen.later(without), Seen.later(file));
  }

  private static void isFalse(String what, Consumer<RowFile> state, Predicate<RowFile> call) {
    refused(what, state, 0, file -> call.test(file) ? 1 : 0);
  }

  private static void isTrue(String what, Consumer<RowFile> state, Predicate<RowFile> call) {
    RowFile file = new RowFile();
    state.accept(file);
    Due.due(what, true, call.test(file));
  }

  private static void taken(String what, Consumer<RowFile> state, long want, ToLongFunction<RowFile> call) {
    RowFile file = new RowFile();
    state.accept(file);
    Due.due(what, want, call.applyAsLong(file));
  }

  // ---- states ----

  private static void fresh(RowFile file) {}

  /** Rows on the disk, others that are not there yet, a draft of two columns, armed with 9. */
  private static void busy(RowFile file) {
    Drafts.insert(file, 2, 10);
    Drafts.insert(file, 0, 20);
    Drafts.insert(file, 1, 30);
    file.commit();
    file.remove(10);
    Drafts.insert(file, 3, 40);
    file.clear();
    file.number(-300);
    file.blob(false, 3, 0x414243);
    file.arm(9);
  }

  private static void down(RowFile file) {
    busy(file);
    file.crash();
  }

  private static void downWithHead(RowFile file) {
    busy(file);
    Due.due("goes down", -3, file.commit());
    Due.due("with HEAD", 1, file.journal(0));
  }

  private static void downSpoiled(RowFile file) {
    down(file);
    file.spoil(2, 3, 1);
    Due.due("is refused", -1, file.open());
  }

  private static void onDownStates(Consumer<Consumer<RowFile>> test) {
    test.accept(RefusedCallsTest::down);
    test.accept(RefusedCallsTest::downWithHead);
    test.accept(RefusedCallsTest::downSpoiled);
  }

  private static void onAllStates(Consumer<Consumer<RowFile>> test) {
    test.accept(RefusedCallsTest::fresh);
    test.accept(RefusedCallsTest::busy);
    onDownStates(test);
  }

  private static void draft(RowFile file, int numbers, int blobs) {
    file.clear();
    for (int i = 0; i < numbers; i++) file.number(1000 + i);
    for (int i = 0; i < blobs; i++) file.blob(false, 2, 0x6162 + i);
  }

  // ---- Promise 2: "False if it has three." ----

  private static void numberBehindThree() {
    for (int numbers = 0; numbers <= 3; numbers++) {
      int n = numbers;
      isFalse("behind three, " + n + " of them numbers", f -> draft(f, n, 3 - n), f -> f.number(5));
      if (n < 3) isTrue("behind two, " + n + " of them numbers", f -> draft(f, n, 2 - n), f -> f.number(5));
    }
    RowFile file = new RowFile();
    draft(file, 1, 1);
    file.number(Long.MIN_VALUE);
    file.insert(1);
    Due.due("the third one is there", 3, file.columns(1));
    Due.due("and is the last one", Long.MIN_VALUE, file.value(1, 2, 0));
  }

  // ---- Promise 3: "False if n is not 0 .. 8;" ----

  private static void blobSizes() {
    for (int n : new int[] {-1, 9, LEAST, GREATEST}) {
      onAllStates(state -> isFalse("a new blob, n " + n, state, f -> f.blob(false, n, 5)));
      onAllStates(state -> isFalse("more, n " + n, state, f -> f.blob(true, n, 5)));
    }
    for (int n = 0; n <= 8; n++) {
      RowFile file = new RowFile();
      Due.due("a new blob, n " + n, true, file.blob(false, n, 0x8182838485868788L));
      Due.due("more, n " + n, true, file.blob(true, n, 0x0102030405060708L));
      file.insert(1);
      Due.due("its code", 12 + 4 * n, file.code(1, 0));
      for (int i = 0; i < n; i++) {
        Due.due("its byte " + i, 0x81 + 8 - n + i, file.value(1, 0, i));
        Due.due("its byte " + (n + i), 1 + 8 - n + i, file.value(1, 0, n + i));
      }
    }
  }

  // ---- "if it has three columns" ----

  private static void blobBehindThree() {
    for (int numbers = 0; numbers <= 3; numbers++) {
      int n = numbers;
      for (int size : new int[] {0, 1, 8}) {
        isFalse("behind three, n " + size, f -> draft(f, n, 3 - n), f -> f.blob(false, size, 5));
      }
      if (n < 3) isTrue("behind two", f -> draft(f, n, 2 - n), f -> f.blob(false, 8, 5));
      if (n < 3) isTrue("more, with three columns", f -> draft(f, n, 3 - n), f -> f.blob(true, 8, 5));
    }
  }

  // ---- "(more: no last column, or none that is a blob," ----

  private static void moreOfNoBlob() {
    for (int n = 0; n <= 8; n += 4) {
      int size = n;
      isFalse("no last column, n " + n, RefusedCallsTest::fresh, f -> f.blob(true, size, 5));
      isFalse("the draft was cleared, n " + n, f -> draftThatWasCleared(f), f -> f.blob(true, size, 5));
      for (int numbers = 1; numbers <= 3; numbers++) {
        int count = numbers;
        isFalse("the last of " + count + " numbers, n " + n, f -> draft(f, count, 0), f -> f.blob(true, size, 5));
      }
      isFalse("a number behind a blob, n " + n, f -> draftBlobAndNumber(f), f -> f.blob(true, size, 5));
      isTrue("a blob behind a number, n " + n, f -> draft(f, 1, 1), f -> f.blob(true, size, 5));
      isTrue("a blob, n " + n, f -> draft(f, 0, 1), f -> f.blob(true, size, 5));
    }
  }

  private static void draftThatWasCleared(RowFile file) {
    draft(file, 0, 2);
    file.clear();
  }

  private static void draftBlobAndNumber(RowFile file) {
    draft(file, 0, 1);
    file.number(7);
  }

  // ---- "or it would have more than 100 bytes)." ----

  private static void moreThanHundred() {
    for (int n = 1; n <= 8; n++) {
      int size = n;
      for (int before = 0; before < 3; before++) {
        int[] over = sizes(before, 101 - n);
        int[] just = sizes(before, 100 - n);
        isFalse("101 bytes by " + n, f -> Drafts.blobs(f, over), f -> f.blob(true, size, -1));
        isTrue("100 bytes by " + n, f -> Drafts.blobs(f, just), f -> f.blob(true, size, -1));
      }
    }
    isTrue("100 bytes and none", f -> Drafts.blobs(f, 100), f -> f.blob(true, 0, -1));
    RowFile file = new RowFile();
    Drafts.blobs(file, 92);
    file.blob(true, 8, 0x0102030405060708L);
    file.blob(true, 1, 77);
    file.blob(false, 1, 66);
    file.insert(1);
    Due.due("the 100th byte", 8, file.value(1, 0, 99));
    Due.due("it has 100", 212, file.code(1, 0));
    Due.due("the next column begins behind it", 66, file.value(1, 1, 0));
  }

  /** Some blobs of 100 bytes, and one of n behind them. */
  private static int[] sizes(int before, int n) {
    int[] sizes = new int[before + 1];
    java.util.Arrays.fill(sizes, 100);
    sizes[before] = n;
    return sizes;
  }

  // ---- Promise 4: "(It stays when the machine goes down, .. it can be made while the machine is down, too.)" ----

  private static void clearWhileDown() {
    onDownStates(state -> {
      RowFile file = new RowFile();
      state.accept(file);
      String seen = Seen.now(file);
      file.clear();
      Due.due("no last column", false, file.blob(true, 1, 1));
      Due.due("made while down", true, file.number(3) && file.blob(false, 1, 8) && file.number(4));
      Due.due("three, while down", false, file.number(5));
      Due.same("nothing else changes", seen, Seen.now(file));
      file.spoil(2, 3, 0);
      Due.due("opened", 3, file.open());
      Due.due("the draft stays", 1, file.insert(50));
      Due.due("as it was made", 3, file.columns(50));
      Due.due("as it was made", 4, file.value(50, 2, 0));
    });
    RowFile file = new RowFile();
    draft(file, 1, 1);
    file.insert(1);
    file.arm(1);
    Due.due("goes down in a commit", -3, file.commit());
    file.open();
    Due.due("the draft stays", 1, file.insert(2));
    Due.due("with both columns", 2, file.columns(2));
  }

  // ---- Promise 5: "NONE if the draft has no columns, or it is no key" ----

  private static void insertNoColumns() {
    refused("no columns, a new file", RefusedCallsTest::fresh, -1, f -> f.insert(1));
    refused("no columns, a busy one", RefusedCallsTest::clearedBusy, -1, f -> f.insert(1));
    refused("no columns and no key", RefusedCallsTest::clearedBusy, -1, f -> f.insert(-1));
    for (int n = 1; n <= 3; n++) {
      int count = n;
      taken(n + " numbers", f -> draft(f, count, 0), 1, f -> f.insert(1));
      taken(n + " blobs", f -> draft(f, 0, count), 1, f -> f.insert(1));
    }
    taken("an empty blob is a column", f -> f.blob(false, 0, 0), 1, f -> f.insert(1));
  }

  private static void clearedBusy(RowFile file) {
    busy(file);
    file.clear();
  }

  private static void insertNoKey() {
    for (int key : new int[] {-1, 1000001, LEAST, GREATEST}) {
      refused("no key: " + key, RefusedCallsTest::busy, -1, f -> f.insert(key));
      refused("no key, a file with no rows: " + key, f -> draft(f, 1, 0), -1, f -> f.insert(key));
    }
    for (int key : new int[] {0, 1, 999999, 1000000}) {
      taken("a key: " + key, RefusedCallsTest::busy, 1, f -> f.insert(key));
    }
  }

  // ---- "0 if there is one of this key" ----

  private static void insertTwice() {
    for (int key : new int[] {20, 30, 40}) {
      refused("there is one: " + key, RefusedCallsTest::busy, 0, f -> f.insert(key));
    }
    for (int key : new int[] {10, 19, 21, 39, 41}) {
      taken("there is none: " + key, RefusedCallsTest::busy, 1, f -> f.insert(key));
    }
    for (int key : new int[] {0, 1000000}) {
      refused("there is one: " + key, f -> inserted(f, key), 0, f -> f.insert(key));
      taken("it was removed: " + key, f -> removed(f, key), 1, f -> f.insert(key));
    }
  }

  private static void inserted(RowFile file, int key) {
    draft(file, 2, 0);
    file.insert(key);
    draft(file, 1, 2);
  }

  private static void removed(RowFile file, int key) {
    inserted(file, key);
    file.remove(key);
  }

  // ---- "FULL if there is no room for the pages that are taken (all is as before then)." ----

  private static void insertFullByChain() {
    for (int listed = 0; listed <= 5; listed++) {
      for (int fresh = 0; listed + fresh <= 5; fresh++) {
        int left = listed + fresh;
        String name = listed + " in the list, " + fresh + " behind the last, a chain of ";
        int inList = listed;
        int behind = fresh;
        Consumer<RowFile> just = f -> readyForChain(f, inList, behind, left);
        taken(name + left, just, 1, f -> f.insert(2));
        usesAllPages(name + left, just, 2);
        if (left < 5) {
          refused(name + (left + 1), f -> readyForChain(f, inList, behind, left + 1), -2, f -> f.insert(2));
        }
      }
    }
    refused("no page left, a chain of 5", f -> readyForChain(f, 0, 0, 5), -2, f -> f.insert(2));
    refused("on the disk, too", f -> committed(f), -2, f -> f.insert(2));
  }

  private static void readyForChain(RowFile file, int listed, int fresh, int chain) {
    Drafts.almostFull(file, listed, fresh);
    Drafts.ofChain(file, chain);
  }

  private static void committed(RowFile file) {
    Drafts.almostFull(file, 1, 1);
    file.commit();
    Drafts.ofChain(file, 3);
  }

  /** All 24 pages are there then, and none of them is free; the file can be committed and opened. */
  private static void usesAllPages(String what, Consumer<RowFile> state, int key) {
    RowFile file = new RowFile();
    state.accept(file);
    file.insert(key);
    Due.due(what + ": PAGES", 24, file.octet(1, 1, false));
    Due.due(what + ": no free page", 0, file.octet(1, 2, false) + file.octet(1, 3, false));
    Due.due(what + ": the 24th page", true, file.octet(24, 63, false) >= 0);
    Due.due(what + ": no 25th page", -1, file.octet(25, 0, false));
    int rows = file.rows();
    file.commit();
    Due.due(what + ": pages on the disk", 24, file.journal(3));
    file.crash();
    Due.due(what + ": opened", rows, file.open());
  }

  private static void insertFullByLeaf() {
    for (int listed = 0; listed <= 1; listed++) {
      int inList = listed;
      Consumer<RowFile> one = f -> readyForLeaf(f, inList, 1 - inList);
      taken("a leaf is split, one page left", one, 1, f -> f.insert(6));
      usesAllPages("a leaf is split, one page left", one, 6);
    }
    refused("a leaf is split, no page left", f -> readyForLeaf(f, 0, 0), -2, f -> f.insert(6));
    taken("the leaf has room, no page left", f -> smallForLeaf(f), 1, f -> f.insert(6));
  }

  /** The greatest leaf has two rows, and no room for a third one. */
  private static void readyForLeaf(RowFile file, int listed, int fresh) {
    Drafts.insert(file, 5, 1);
    Drafts.insert(file, 5, 2);
    Drafts.insert(file, 5, 3);
    Drafts.insert(file, 5 - fresh, 4);
    if (listed > 0) {
      file.remove(4);
      Drafts.insert(file, 5 - listed, 4);
    }
    Due.due("PAGES", 24 - fresh, file.octet(1, 1, false));
    Due.due("FREE", listed, file.octet(1, 3, false));
    Drafts.ofChain(file, 0);
  }

  private static void smallForLeaf(RowFile file) {
    readyForLeaf(file, 0, 0);
    Drafts.number(file, 0);
  }

  private static void insertFullByRoot() {
    for (int listed = 0; listed <= 3; listed++) {
      for (int fresh = 0; listed + fresh <= 3; fresh++) {
        int inList = listed;
        int behind = fresh;
        String name = "ROOT is split, " + listed + " in the list, " + fresh + " behind the last";
        Consumer<RowFile> state = f -> readyForRoot(f, inList, behind);
        if (listed + fresh < 3) {
          refused(name, state, -2, f -> f.insert(100026));
        } else {
          taken(name, state, 1, f -> f.insert(100026));
          usesAllPages(name, state, 100026);
        }
      }
    }
  }

  private static void readyForRoot(RowFile file, int listed, int fresh) {
    Drafts.fullRoot(file, listed, fresh);
    Drafts.ofChain(file, 0);
  }

  /** The chain has its page, and then there is none for the split. */
  private static void insertFullByChainAndSplit() {
    refused("a chain and a leaf", f -> readyForLeafAndChain(f), -2, f -> f.insert(6));
    for (int left = 1; left <= 3; left++) {
      int pages = left;
      refused("a chain and ROOT, " + left + " left", f -> readyForRootAndChain(f, pages), -2, f -> f.insert(100026));
    }
    taken("a chain and ROOT, 4 left", f -> readyForRootAndChain(f, 4), 1, f -> f.insert(100026));
    usesAllPages("a chain and ROOT, 4 left", f -> readyForRootAndChain(f, 4), 100026);
  }

  private static void readyForLeafAndChain(RowFile file) {
    readyForLeaf(file, 0, 1);
    Drafts.ofChain(file, 1);
  }

  private static void readyForRootAndChain(RowFile file, int left) {
    Drafts.fullRoot(file, left / 2, left - left / 2);
    Drafts.ofChain(file, 1);
  }

  // ---- "DOWN is tested first, then NONE, then 0, FULL last." ----

  private static void insertOrder() {
    refused("DOWN ahead of NONE, no columns", f -> clearedDown(f), -3, f -> f.insert(20));
    refused("DOWN ahead of NONE, no key", RefusedCallsTest::down, -3, f -> f.insert(-1));
    refused("DOWN ahead of 0", RefusedCallsTest::down, -3, f -> f.insert(20));
    refused("DOWN ahead of FULL", f -> fullDown(f), -3, f -> f.insert(2));
    refused("NONE, no columns, ahead of 0", RefusedCallsTest::clearedBusy, -1, f -> f.insert(20));
    refused("NONE, no columns, ahead of FULL", f -> clearedFull(f), -1, f -> f.insert(2));
    refused("NONE, no key, ahead of FULL", f -> readyForChain(f, 0, 0, 5), -1, f -> f.insert(1000001));
    refused("0 ahead of FULL", f -> readyForChain(f, 0, 0, 5), 0, f -> f.insert(1));
    refused("FULL", f -> readyForChain(f, 0, 0, 5), -2, f -> f.insert(0));
  }

  private static void clearedDown(RowFile file) {
    down(file);
    file.clear();
  }

  private static void fullDown(RowFile file) {
    readyForChain(file, 0, 0, 5);
    file.commit();
    file.crash();
  }

  private static void clearedFull(RowFile file) {
    readyForChain(file, 0, 0, 5);
    file.clear();
  }

  // ---- Promise 6: "0 if there is none; DOWN (tested first)." ----

  private static void removeNone() {
    for (int key : new int[] {-1, 0, 10, 19, 21, 41, 1000000, 1000001, LEAST, GREATEST}) {
      refused("there is none: " + key, RefusedCallsTest::busy, 0, f -> f.remove(key));
      refused("a file with no rows: " + key, RefusedCallsTest::fresh, 0, f -> f.remove(key));
      onDownStates(state -> refused("DOWN first: " + key, state, -3, f -> f.remove(key)));
    }
    for (int key : new int[] {20, 30, 40}) taken("there is one", RefusedCallsTest::busy, 1, f -> f.remove(key));
    for (int key : new int[] {0, 1000000}) taken("there is one", f -> inserted(f, key), 1, f -> f.remove(key));
  }

  // ---- Promise 7: "0 if none was; DOWN if the machine is down" ----

  private static void commitNothing() {
    refused("a new file", RefusedCallsTest::fresh, 0, f -> f.commit());
    refused("a new file, armed with 0", f -> f.arm(0), 0, f -> f.commit());
    refused("committed just now", f -> committedAndArmed(f), 0, f -> f.commit());
    refused("undone", f -> undone(f), 0, f -> f.commit());
    refused("inserted and removed", f -> removed(f, 5), 0, f -> f.commit());
    refused("opened just now", f -> reopened(f), 0, f -> f.commit());
    taken("one page and page 1", f -> inserted(f, 5), 2, f -> f.commit());
    taken("a page that is all 0 is new", f -> chainRemoved(f), 2, f -> f.commit());
  }

  private static void committedAndArmed(RowFile file) {
    busy(file);
    file.arm(60);
    file.commit();
    file.arm(0);
  }

  private static void undone(RowFile file) {
    busy(file);
    file.undo();
    file.arm(0);
  }

  private static void reopened(RowFile file) {
    down(file);
    file.open();
  }

  /** Its one page is free, and the only one: all its bytes are 0. */
  private static void chainRemoved(RowFile file) {
    Drafts.insert(file, 1, 5);
    file.remove(5);
  }

  // ---- Promise 8: "All is again as at the latest commit or opening. False if the machine is down." ----

  private static void undoNothing() {
    for (Consumer<RowFile> state : java.util.List.<Consumer<RowFile>>of(
        RefusedCallsTest::fresh, RefusedCallsTest::committedAndArmed, RefusedCallsTest::reopened)) {
      refused("nothing to undo", state, 1, f -> f.undo() ? 1 : 0);
    }
    RowFile file = new RowFile();
    busy(file);
    file.undo();
    RowFile other = new RowFile();
    down(other);
    other.open();
    Due.same("as at the latest commit", Seen.now(other), Seen.now(file));
    Due.due("the draft is not of the file", 1, file.insert(7));
    Due.due("the draft is not of the file", -300, file.value(7, 0, 0));
    Due.due("nor is the number that it is armed with", 2, file.commit());
    file.remove(7);
    Due.due("nine writes were left, six are done", -3, file.commit());
    Due.due("at the fourth one", 1, file.journal(0));
  }

  // ---- Promise 9: "The machine goes down. False if it is." ----

  private static void crashTwice() {
    isTrue("a new file", RefusedCallsTest::fresh, f -> f.crash());
    isTrue("a busy one", RefusedCallsTest::busy, f -> f.crash());
    isTrue("opened just now", RefusedCallsTest::reopened, f -> f.crash());
    onDownStates(state -> isFalse("down", state, f -> f.crash()));
    RowFile file = new RowFile();
    busy(file);
    RowFile armedWithNone = new RowFile();
    busy(armedWithNone);
    file.arm(0);
    armedWithNone.arm(60);
    file.crash();
    armedWithNone.crash();
    Due.due("no page is seen now", -1, file.octet(1, 0, false));
    Due.same("the disk", Seen.now(armedWithNone), Seen.now(file));
    Due.same("it is not armed then", Seen.later(armedWithNone), Seen.later(file));
  }

  // ---- Promise 10: "False if it is down, or k is not 0 .. 60." ----

  private static void armNumbers() {
    for (int k : new int[] {-1, 61, LEAST, GREATEST}) {
      isFalse("not armed: " + k, RefusedCallsTest::fresh, f -> f.arm(k));
      isFalse("armed with 9: " + k, RefusedCallsTest::busy, f -> f.arm(k));
      isFalse("armed with 0: " + k, f -> f.arm(0), f -> f.arm(k));
      onDownStates(state -> isFalse("down: " + k, state, f -> f.arm(k)));
    }
    for (int k : new int[] {0, 1, 59, 60}) {
      isTrue("not armed: " + k, RefusedCallsTest::fresh, f -> f.arm(k));
      isTrue("in place of what it was: " + k, RefusedCallsTest::busy, f -> f.arm(k));
      onDownStates(state -> isFalse("down: " + k, state, f -> f.arm(k)));
    }
  }

  // ---- Promise 11: "DOWN if it is up." ----

  private static void openWhileUp() {
    refused("a new file", RefusedCallsTest::fresh, -3, f -> f.open());
    refused("a busy one", RefusedCallsTest::busy, -3, f -> f.open());
    refused("a full one", f -> readyForChain(f, 0, 0, 1), -3, f -> f.open());
    refused("opened just now", RefusedCallsTest::reopened, -3, f -> f.open());
    taken("down", RefusedCallsTest::down, 3, f -> f.open());
    taken("down, a file with no rows", f -> f.crash(), 0, f -> f.open());
  }

  // ---- "Otherwise it stays down (with the disk as it is then, without HEAD): NONE." ----

  private static void openRefused() {
    for (int at : new int[] {0, 1, 2, 3, 6, 7, 63}) {
      refused("byte " + at + " of page 1", f -> spoiled(f, 1, at), -1, f -> f.open());
    }
    refused("byte 63 of the last page", f -> spoiled(f, f.journal(3), 63), -1, f -> f.open());
    refused("a second time", RefusedCallsTest::downSpoiled, -1, f -> f.open());
  }

  private static void spoiled(RowFile file, int page, int at) {
    if (file.rows() >= 0) {
      Drafts.insert(file, 4, 3);
      file.commit();
      file.crash();
    }
    file.spoil(page, at, 99);
  }

  private static void openRefusedWithHead() {
    RowFile file = new RowFile();
    downWithHead(file);
    int there = file.journal(1);
    RowFile opened = new RowFile();
    downWithHead(opened);
    Due.due("it can be opened", 3, opened.open());
    int untouched = pageWithoutRecord();
    file.spoil(untouched, 63, file.octet(untouched, 63, true) ^ 1);
    file.spoil(untouched, 0, 200);
    Due.due("a page without record is spoiled", -1, file.open());
    Due.due("it stays down", -3, file.rows());
    for (int what = 0; what <= 2; what++) Due.due("without HEAD", 0, file.journal(what));
    Due.due("as many pages as HEAD says", there, file.journal(3));
    for (int page = 1; page <= there; page++) {
      for (int at = 0; at < 64; at++) {
        int old = opened.octet(page, at, true);
        int due = page != untouched ? old : at == 0 ? 200 : at == 63 ? old ^ 1 : old;
        Due.due("byte " + at + " of page " + page, due, file.octet(page, at, true));
      }
    }
    file.spoil(untouched, 63, opened.octet(untouched, 63, true));
    file.spoil(untouched, 0, opened.octet(untouched, 0, true));
    Due.due("mended", 3, file.open());
  }

  /** A page that the busy file has on the disk and does not change: the chain of the row 30. */
  private static int pageWithoutRecord() {
    RowFile file = new RowFile();
    busy(file);
    int page = 0;
    for (int p = 2; p <= file.journal(3); p++) {
      boolean same = true;
      for (int at = 0; at < 64; at++) same &= file.octet(p, at, true) == file.octet(p, at, false);
      if (same) page = p;
    }
    Due.due("there is one", true, page > 1);
    return page;
  }

  // ---- Promise 12: "False if it is up, or there is no such page, byte (0 .. 63) or v." ----

  private static void spoilWrong() {
    onDownStates(state -> {
      for (int page : new int[] {-1, 0, 24, 25, LEAST, GREATEST}) {
        isFalse("no page: " + page, state, f -> f.spoil(page, 5, 1));
      }
      isFalse("the page behind the last", state, f -> f.spoil(f.journal(3) + 1, 5, 1));
      for (int at : new int[] {-1, 64, LEAST, GREATEST}) {
        isFalse("no byte: " + at, state, f -> f.spoil(1, at, 1));
        isFalse("no byte of the last page: " + at, state, f -> f.spoil(f.journal(3), at, 1));
      }
      for (int v : new int[] {-1, 256, LEAST, GREATEST}) isFalse("no v: " + v, state, f -> f.spoil(2, 63, v));
    });
    spoilRight();
    RowFile full = new RowFile();
    fullDown(full);
    Due.due("page 24", true, full.spoil(24, 63, 7));
    Due.due("page 24", 7, full.octet(24, 63, true));
    Due.due("page 25", false, full.spoil(25, 63, 7));
  }

  private static void spoilRight() {
    onDownStates(state -> {
      RowFile file = new RowFile();
      state.accept(file);
      for (int page : new int[] {1, file.journal(3)}) {
        for (int at : new int[] {0, 63}) {
          for (int v : new int[] {0, 255}) {
            String want = Seen.now(file).replace('\n', ' ');
            Due.due("page, byte and v", true, file.spoil(page, at, v));
            Due.due("the byte", v, file.octet(page, at, true));
            Due.due("one byte at most is another one", true, differences(want, Seen.now(file)) <= 1);
          }
        }
      }
    });
  }

  private static int differences(String before, String after) {
    String[] old = before.split("\\s+");
    String[] now = after.split("\\s+");
    Due.due("as many words", old.length, now.length);
    int count = 0;
    for (int i = 0; i < old.length && i < now.length; i++) if (!old[i].equals(now[i])) count++;
    return count;
  }

  private static void spoilWhileUp() {
    for (int page = 0; page <= 3; page++) {
      int p = page;
      isFalse("up, page " + page, RefusedCallsTest::fresh, f -> f.spoil(p, 5, 1));
      isFalse("up and busy, page " + page, RefusedCallsTest::busy, f -> f.spoil(p, 5, 1));
    }
  }

  // ---- Promises 13 and 14: "from 0 on by keys; NONE if there is none" ----

  private static void keysOfNone() {
    refused("rows of a new file", RefusedCallsTest::fresh, 0, f -> f.rows());
    refused("rows", RefusedCallsTest::busy, 3, f -> f.rows());
    for (int i : new int[] {-1, 3, LEAST, GREATEST}) {
      refused("key of row " + i, RefusedCallsTest::busy, -1, f -> f.key(i));
    }
    for (int i : new int[] {-1, 0, LEAST, GREATEST}) {
      refused("key of row " + i + " of none", RefusedCallsTest::fresh, -1, f -> f.key(i));
    }
    refused("the first key", RefusedCallsTest::busy, 20, f -> f.key(0));
    refused("the last key", RefusedCallsTest::busy, 40, f -> f.key(2));
    refused("the last of 26", f -> Drafts.fullRoot(f, 0, 0), 100025, f -> f.key(25));
    refused("behind the last of 26", f -> Drafts.fullRoot(f, 0, 0), -1, f -> f.key(26));
    refused("the last of a leaf", f -> Drafts.fullRoot(f, 0, 0), 100001, f -> f.key(1));
    refused("the first of the next one", f -> Drafts.fullRoot(f, 0, 0), 100002, f -> f.key(2));
    for (int key : new int[] {0, 1000000}) refused("the key " + key, f -> inserted(f, key), key, f -> f.key(0));
  }

  // ---- Promise 15 ----

  private static void columnsOfNone() {
    for (int key : new int[] {-1, 0, 10, 19, 21, 1000000, 1000001, LEAST, GREATEST}) {
      refused("columns of " + key, RefusedCallsTest::busy, -1, f -> f.columns(key));
      refused("columns of " + key + ", no rows", RefusedCallsTest::fresh, -1, f -> f.columns(key));
      refused("code of " + key, RefusedCallsTest::busy, -1, f -> f.code(key, 0));
      refused("value of " + key, RefusedCallsTest::busy, 0, f -> f.value(key, 0, 0));
    }
    for (int n = 1; n <= 3; n++) {
      int count = n;
      refused("columns", f -> withColumns(f, count), n, f -> f.columns(5));
    }
  }

  private static void withColumns(RowFile file, int n) {
    draft(file, n, 0);
    file.insert(5);
    draft(file, 0, 3);
  }

  // ---- Promise 16 ----

  private static void codesOfNone() {
    for (int n = 1; n <= 3; n++) {
      int count = n;
      for (int c : new int[] {-1, n, 3, 4, LEAST, GREATEST}) {
        refused("code of column " + c + " of " + n, f -> withColumns(f, count), -1, f -> f.code(5, c));
        refused("value of column " + c + " of " + n, f -> withColumns(f, count), 0, f -> f.value(5, c, 0));
      }
      refused("code of the last column", f -> withColumns(f, count), 2, f -> f.code(5, count - 1));
      refused("value of the last one", f -> withColumns(f, count), 999 + n, f -> f.value(5, count - 1, 0));
      refused("code of the first column", f -> withColumns(f, count), 2, f -> f.code(5, 0));
    }
  }

  // ---- Promise 17: "of a blob byte i (0 .. 255). 0 if there is none" ----

  private static void valuesOfNone() {
    for (int n : new int[] {0, 1, 22, 23, 57, 58, 99, 100}) {
      for (int c = 0; c <= 2; c++) {
        int column = c;
        Consumer<RowFile> state = f -> threeBlobs(f, n);
        for (int i : new int[] {-1, n, n + 1, 100, 101, LEAST, GREATEST}) {
          refused("byte " + i + " of " + n, state, 0, f -> f.value(5, column, i));
        }
        if (n > 0) {
          refused("the first byte", state, c * n + 1 & 255, f -> f.value(5, column, 0));
          refused("the last byte", state, (c + 1) * n & 255, f -> f.value(5, column, n - 1));
        }
      }
    }
    for (int i : new int[] {-1, 0, 1, LEAST, GREATEST}) {
      refused("an integer, byte " + i, f -> withColumns(f, 1), 1000, f -> f.value(5, 0, i));
    }
    Due.due("127 is above 0", 0x7F, withByte(0x7F).value(1, 0, 0));
    Due.due("128 is above 0", 0x80, withByte(0x80).value(1, 0, 0));
    Due.due("255 is above 0", 0xFF, withByte(0xFF).value(1, 0, 0));
  }

  private static void threeBlobs(RowFile file, int n) {
    Drafts.blobs(file, n, n, n);
    file.insert(5);
    Drafts.number(file, 4);
    file.insert(6);
  }

  private static RowFile withByte(int v) {
    RowFile file = new RowFile();
    file.blob(false, 1, v);
    file.insert(1);
    return file;
  }

  // ---- Promise 18: "NONE if there is no such page or byte" ----

  private static void octetsOfNone() {
    for (boolean onDisk : new boolean[] {false, true}) {
      for (int page : new int[] {-1, 0, 24, 25, LEAST, GREATEST}) {
        refused("no page " + page, RefusedCallsTest::busy, -1, f -> f.octet(page, 0, onDisk));
      }
      for (int at : new int[] {-1, 64, LEAST, GREATEST}) {
        for (int page : new int[] {1, 2, 3}) {
          refused("no byte " + at, RefusedCallsTest::busy, -1, f -> f.octet(page, at, onDisk));
        }
      }
      refused("page 1, byte 0", RefusedCallsTest::busy, 83, f -> f.octet(1, 0, onDisk));
      refused("page 1, byte 63", RefusedCallsTest::busy, 0, f -> f.octet(1, 63, onDisk));
      refused("page 2", RefusedCallsTest::fresh, 13, f -> f.octet(2, 0, onDisk));
      refused("page 3", RefusedCallsTest::fresh, -1, f -> f.octet(3, 0, onDisk));
    }
    refused("as many as PAGES now", f -> chainRemoved(f), 0, f -> f.octet(3, 63, false));
    refused("one page more", f -> chainRemoved(f), -1, f -> f.octet(4, 0, false));
    refused("not on the disk yet", f -> chainRemoved(f), -1, f -> f.octet(3, 63, true));
    refused("page 24", f -> readyForChain(f, 0, 0, 1), -1, f -> f.octet(24, 63, true));
    refused("page 25", f -> readyForChain(f, 0, 0, 1), -1, f -> f.octet(25, 0, false));
  }

  // ---- Promise 19: "(1, 2: 0 if it is not there).. NONE for another what." ----

  private static void journalOfNone() {
    onAllStates(state -> {
      for (int what : new int[] {-1, 4, LEAST, GREATEST}) refused("no " + what, state, -1, f -> f.journal(what));
    });
    for (int what = 0; what <= 2; what++) {
      int asked = what;
      refused("no HEAD: " + what, RefusedCallsTest::fresh, 0, f -> f.journal(asked));
      refused("no HEAD: " + what, RefusedCallsTest::busy, 0, f -> f.journal(asked));
      refused("no HEAD: " + what, RefusedCallsTest::down, 0, f -> f.journal(asked));
      refused("HEAD was there: " + what, f -> headWasThere(f), 0, f -> f.journal(asked));
    }
    refused("pages of a new file", RefusedCallsTest::fresh, 2, f -> f.journal(3));
    refused("pages of 24", f -> fullDown(f), 24, f -> f.journal(3));
  }

  private static void headWasThere(RowFile file) {
    downWithHead(file);
    file.open();
  }

  // ---- what each call answers while the machine is down ----

  private static void callsWhileDown() {
    onDownStates(state -> {
      for (int key : new int[] {-1, 20, 50, 1000001}) {
        refused("insert", state, -3, f -> f.insert(key));
        refused("remove", state, -3, f -> f.remove(key));
        refused("columns", state, -1, f -> f.columns(key));
        refused("code", state, -1, f -> f.code(key, 0));
        refused("value", state, 0, f -> f.value(key, 0, 0));
        refused("key", state, -1, f -> f.key(key));
      }
      refused("key 0", state, -1, f -> f.key(0));
      refused("commit", state, -3, f -> f.commit());
      isFalse("undo", state, f -> f.undo());
      isFalse("crash", state, f -> f.crash());
      isFalse("arm", state, f -> f.arm(3));
      refused("rows", state, -3, f -> f.rows());
      refused("octet now", state, -1, f -> f.octet(1, 0, false));
      refused("octet on the disk", state, 83, f -> f.octet(1, 0, true));
    });
  }
}
