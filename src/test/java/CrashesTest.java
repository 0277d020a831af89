import java.util.ArrayList;
import java.util.List;

/** The machine goes down at each write of a commit: what is on the disk then, and that the opening brings all back. */
public final class CrashesTest {
  public static void main(String[] args) {
    for (int k = 0; k <= 60; k++) {
      goDownAt(k, 0);
      goDownAt(k, 1);
      goDownAt(k, 2);
    }
    spoiledWhileHeadIsThere();
    downAfterDown();
    Due.end();
  }

  private static void draftBlob(RowFile file, int n, int first) {
    file.clear();
    file.blob(false, 0, 0);
    for (int i = 0; i < n; i++) file.blob(true, 1, first + i);
  }

  private static RowFile base() {
    RowFile file = new RowFile();
    draftBlob(file, 100, 1);
    for (int key = 10; key < 14; key++) file.insert(key);
    draftBlob(file, 12, 200);
    for (int key = 20; key < 23; key++) file.insert(key);
    file.commit();
    return file;
  }

  private static void change(RowFile file, int which) {
    if (which == 0) {
      file.remove(11);
      file.remove(21);
    } else if (which == 1) {
      draftBlob(file, 100, 77);
      for (int key = 30; key < 33; key++) file.insert(key);
      file.remove(12);
    } else {
      draftBlob(file, 3, 9);
      file.insert(0);
    }
  }

  private static int[][] pages(RowFile file, boolean onDisk) {
    List<int[]> pages = new ArrayList<>();
    for (int p = 1; file.octet(p, 0, onDisk) >= 0; p++) {
      int[] page = new int[64];
      for (int at = 0; at < 64; at++) page[at] = file.octet(p, at, onDisk);
      pages.add(page);
    }
    return pages.toArray(new int[0][]);
  }

  private static void samePages(String what, int[][] want, RowFile file, boolean onDisk) {
    int[][] got = pages(file, onDisk);
    Due.due(what + ": pages", want.length, got.length);
    for (int p = 0; p < want.length && p < got.length; p++) {
      for (int at = 0; at < 64; at++) Due.due(what + ": byte " + at + " of page " + (p + 1), want[p][at], got[p][at]);
    }
  }

  private static void goDownAt(int k, int which) {
    String name = "change " + which + ", armed with " + k;
    RowFile file = base();
    int rows = file.rows();
    int[][] old = pages(file, true);
    change(file, which);
    int newRows = file.rows();
    int[][] wanted = pages(file, false);
    wanted[0][5]++;
    List<Integer> different = new ArrayList<>();
    int records = 0;
    for (int p = 0; p < wanted.length; p++) {
      if (p >= old.length || !java.util.Arrays.equals(old[p], wanted[p])) {
        different.add(p);
        if (p < old.length) records++;
      }
    }
    int writes = records + 1 + different.size() + 1;
    Due.due(name + ": arm", true, file.arm(k));
    Due.due(name + ": commit", k < writes ? -3 : different.size(), file.commit());
    samePages(name + ": the disk", diskAfter(old, wanted, different, k - records - 1), file, true);
    boolean head = k > records && k < writes;
    Due.due(name + ": head", head ? 1 : 0, file.journal(0));
    Due.due(name + ": head's pages", head ? old.length : 0, file.journal(1));
    Due.due(name + ": head's records", head ? records : 0, file.journal(2));
    if (k < writes) {
      Due.due(name + ": rows", -3, file.rows());
      Due.due(name + ": open", rows, file.open());
      samePages(name + ": the disk again", old, file, true);
      samePages(name + ": the pages again", old, file, false);
      Due.due(name + ": head", 0, file.journal(0));
      change(file, which);
      Due.due(name + ": commit again", different.size(), file.commit());
    } else {
      Due.due(name + ": rows", newRows, file.rows());
      stillArmed(name, file, k - writes);
      return;
    }
    samePages(name + ": the new disk", wanted, file, true);
    file.crash();
    Due.due(name + ": open the new one", newRows, file.open());
  }

  /** The disk when so many pages were written and the next write was cut off. */
  private static int[][] diskAfter(int[][] old, int[][] wanted, List<Integer> different, int written) {
    List<int[]> disk = new ArrayList<>(List.of(old));
    for (int i = 0; i < different.size() && i <= written; i++) {
      int p = different.get(i);
      if (i < written) {
        if (p < disk.size()) disk.set(p, wanted[p]);
        else disk.add(wanted[p]);
      } else if (p < disk.size()) {
        int[] torn = old[p].clone();
        System.arraycopy(wanted[p], 0, torn, 0, 32);
        disk.set(p, torn);
      }
    }
    return disk.toArray(new int[0][]);
  }

  /** What is left of the number counts for the next commits, of six writes each. */
  private static void stillArmed(String name, RowFile file, int left) {
    draftBlob(file, 1, 1);
    for (int i = 0; i < left / 6; i++) {
      if (i % 2 == 0) file.insert(999999);
      else file.remove(999999);
      Due.due(name + ": a commit of six writes", 2, file.commit());
    }
    if (left / 6 % 2 == 0) file.insert(999999);
    else file.remove(999999);
    Due.due(name + ": the armed one", -3, file.commit());
  }

  private static void spoiledWhileHeadIsThere() {
    RowFile file = base();
    int[][] old = pages(file, true);
    change(file, 1);
    file.arm(20);
    Due.due("commit", -3, file.commit());
    Due.due("head", 1, file.journal(0));
    int there = file.journal(3);
    for (int p = old.length + 1; p <= there; p++) Due.due("a new page", true, file.spoil(p, 9, 99));
    Due.due("behind the file's end", false, file.spoil(there + 1, 0, 0));
    for (int at = 0; at < 64; at++) file.spoil(1, at, 255);
    Due.due("a page with a record comes back", 7, file.open());
    samePages("spoiled ahead of the opening", old, file, true);

    RowFile other = base();
    change(other, 2);
    other.arm(4);
    Due.due("commit", -3, other.commit());
    Due.due("head", 1, other.journal(0));
    other.spoil(5, 60, other.octet(5, 60, true) ^ 1);
    other.spoil(1, 8, 1);
    int changed = other.octet(5, 60, true);
    Due.due("a page with no record stays as it is", 7, other.open());
    Due.due("the byte", changed, other.octet(5, 60, false));

    RowFile wrong = base();
    change(wrong, 2);
    wrong.arm(4);
    wrong.commit();
    int last = wrong.octet(wrong.octet(1, 6, true), 2, true);
    Due.due("a leaf that was not changed", 13, wrong.octet(last, 0, true));
    wrong.spoil(last, 3, 1);
    wrong.spoil(1, 5, 7);
    Due.due("refused", -1, wrong.open());
    Due.due("without HEAD", 0, wrong.journal(0));
    Due.due("with the disk as it is then", 1, wrong.octet(1, 5, true));
    Due.due("with the disk as it is then", 1, wrong.octet(last, 3, true));
    wrong.spoil(last, 3, 0);
    Due.due("mended", 7, wrong.open());
  }

  private static void downAfterDown() {
    RowFile file = base();
    for (int round = 0; round < 20; round++) {
      change(file, round % 3);
      file.arm(round);
      Due.due("round " + round, -3, Math.min(file.commit(), -3));
      if (file.rows() == -3) Due.due("round " + round + ", open", 7, file.open());
      else break;
    }
  }
}
