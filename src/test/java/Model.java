import java.util.ArrayDeque;
import java.util.ArrayList;
import java.util.Arrays;
import java.util.Deque;
import java.util.HashSet;
import java.util.List;
import java.util.Random;
import java.util.Set;
import java.util.TreeMap;

/**
 * The document again, in another way: the tree is one of objects, and the pages are made from it whole each time they
 * are asked for. A file is as it must be if it can be read and the pages made from what was read are the same again.
 */
final class Model {
  static final class Row {
    List<Object> columns = new ArrayList<>();
    List<Integer> chain = new ArrayList<>();
  }

  /** A leaf has rows by keys; an inner page has a child more than keys. */
  static final class Knot {
    int page;
    boolean leaf;
    TreeMap<Integer, Row> rows = new TreeMap<>();
    List<Integer> keys = new ArrayList<>();
    List<Knot> children = new ArrayList<>();

    Knot(int page, boolean leaf) {
      this.page = page;
      this.leaf = leaf;
    }
  }

  static final class Bad extends RuntimeException {
    private static final long serialVersionUID = 1;
  }

  static final class State {
    int pages = 2;
    int changes = 0;
    Deque<Integer> free = new ArrayDeque<>();
    Knot root = new Knot(2, true);
  }

  private final List<Object> draft = new ArrayList<>();
  private State now = new State();
  List<byte[]> disk = pagesOf(now);
  private List<byte[]> journal = null;
  private int headRecords;
  private int armed = -1;

  // ---- bytes ----

  static byte[] varint(int v) {
    String groups = Integer.toBinaryString(v);
    while (groups.length() % 7 != 0) groups = "0" + groups;
    byte[] bytes = new byte[groups.length() / 7];
    for (int i = 0; i < bytes.length; i++) {
      int group = Integer.parseInt(groups.substring(7 * i, 7 * i + 7), 2);
      bytes[i] = (byte) (i + 1 < bytes.length ? group | 128 : group);
    }
    return bytes;
  }

  static byte[] join(byte[]... parts) {
    int n = 0;
    for (byte[] part : parts) n += part.length;
    byte[] all = new byte[n];
    n = 0;
    for (byte[] part : parts) {
      System.arraycopy(part, 0, all, n, part.length);
      n += part.length;
    }
    return all;
  }

  static int code(Object column) {
    if (column instanceof byte[] b) return 12 + 2 * b.length;
    long v = (Long) column;
    if (v == 0) return 8;
    if (v == 1) return 9;
    if (v >= -128 && v <= 127) return 1;
    if (v >= -32768 && v <= 32767) return 2;
    if (v >= Integer.MIN_VALUE && v <= Integer.MAX_VALUE) return 4;
    return 6;
  }

  static int width(int code) {
    switch (code) {
      case 1: return 1;
      case 2: return 2;
      case 4: return 4;
      case 6: return 8;
      case 8: case 9: return 0;
      default:
        if (code < 12 || code > 212 || code % 2 != 0) throw new Bad();
        return (code - 12) / 2;
    }
  }

  static byte[] record(Row row) {
    byte[] codes = {};
    byte[] values = {};
    for (Object column : row.columns) {
      codes = join(codes, varint(code(column)));
      if (column instanceof byte[] b) {
        values = join(values, b);
      } else {
        byte[] eight = java.nio.ByteBuffer.allocate(8).putLong((Long) column).array();
        values = join(values, Arrays.copyOfRange(eight, 8 - width(code(column)), 8));
      }
    }
    return join(varint(1 + codes.length), codes, values);
  }

  static int chainLength(Row row) {
    int n = record(row).length;
    return n <= 24 ? 0 : (n - 16 + 62) / 63;
  }

  static byte[] leafCell(int key, Row row) {
    byte[] record = record(row);
    byte[] head = join(varint(record.length), varint(key));
    if (record.length <= 24) return join(head, record);
    return join(head, Arrays.copyOf(record, 16), new byte[] {(byte) (int) row.chain.get(0)});
  }

  static List<byte[]> cells(Knot knot) {
    List<byte[]> cells = new ArrayList<>();
    if (knot.leaf) {
      for (int key : knot.rows.keySet()) cells.add(leafCell(key, knot.rows.get(key)));
    } else {
      for (int i = 0; i < knot.keys.size(); i++) {
        cells.add(join(new byte[] {(byte) knot.children.get(i).page}, varint(knot.keys.get(i))));
      }
    }
    return cells;
  }

  static int room(List<byte[]> cells) {
    int n = 0;
    for (byte[] cell : cells) n += 1 + cell.length;
    return n;
  }

  static List<byte[]> pagesOf(State state) {
    List<byte[]> pages = new ArrayList<>();
    for (int i = 0; i < state.pages; i++) pages.add(new byte[64]);
    byte[] first = pages.get(0);
    first[0] = 83;
    first[1] = (byte) state.pages;
    first[2] = (byte) (state.free.isEmpty() ? 0 : state.free.peek());
    first[3] = (byte) state.free.size();
    first[4] = (byte) (state.changes / 256);
    first[5] = (byte) (state.changes % 256);
    first[6] = (byte) state.root.page;
    int before = 0;
    for (int page : state.free) {
      if (before != 0) pages.get(before - 1)[0] = (byte) page;
      before = page;
    }
    putKnot(pages, state.root);
    return pages;
  }

  private static void putKnot(List<byte[]> pages, Knot knot) {
    byte[] page = pages.get(knot.page - 1);
    List<byte[]> cells = cells(knot);
    page[0] = (byte) (knot.leaf ? 13 : 5);
    page[1] = (byte) cells.size();
    int end = 64;
    for (int i = 0; i < cells.size(); i++) {
      end -= cells.get(i).length;
      page[4 + i] = (byte) end;
      System.arraycopy(cells.get(i), 0, page, end, cells.get(i).length);
    }
    for (Row row : knot.rows.values()) {
      byte[] record = record(row);
      for (int i = 0; i < row.chain.size(); i++) {
        byte[] link = pages.get(row.chain.get(i) - 1);
        if (i + 1 < row.chain.size()) link[0] = (byte) (int) row.chain.get(i + 1);
        for (int k = 0; k < 63 && 16 + 63 * i + k < record.length; k++) link[1 + k] = record[16 + 63 * i + k];
      }
    }
    if (!knot.leaf) {
      page[2] = (byte) knot.children.get(knot.keys.size()).page;
      for (Knot child : knot.children) putKnot(pages, child);
    }
  }

  // ---- reading a file ----

  private static final class Reader {
    final byte[] bytes;
    int at;

    Reader(byte[] bytes, int at) {
      this.bytes = bytes;
      this.at = at;
    }

    int one() {
      if (at >= bytes.length) throw new Bad();
      return bytes[at++] & 255;
    }

    int varint() {
      int v = 0;
      for (int i = 0; i < 4; i++) {
        int b = one();
        v = v * 128 + b % 128;
        if (b < 128) return v;
      }
      throw new Bad();
    }

    byte[] many(int n) {
      if (n < 0 || n > bytes.length - at) throw new Bad();
      at += n;
      return Arrays.copyOfRange(bytes, at - n, at);
    }
  }

  /** Null if the file is not exactly as it must be. */
  static State stateOf(List<byte[]> pages) {
    try {
      State state = new State();
      byte[] first = pages.get(0);
      Set<Integer> met = new HashSet<>();
      state.pages = first[1];
      if (state.pages != pages.size()) return null;
      state.changes = (first[4] & 255) * 256 + (first[5] & 255);
      for (int page = first[2]; page != 0; page = pages.get(page - 1)[0]) {
        meet(met, page, pages);
        state.free.add(page);
      }
      state.root = readKnot(pages, first[6], met, true);
      if (met.size() != pages.size() - 1) return null;
      List<Integer> order = new ArrayList<>();
      listOrder(state.root, order);
      for (int i = 1; i < order.size(); i++) if (order.get(i - 1) >= order.get(i)) return null;
      return same(pagesOf(state), pages) ? state : null;
    } catch (Bad bad) {
      return null;
    }
  }

  private static void meet(Set<Integer> met, int page, List<byte[]> pages) {
    if (page < 2 || page > pages.size() || !met.add(page)) throw new Bad();
  }

  /** A row's key is 2 * key, an inner page's one more: then all of them ascend, if they stand where they must. */
  private static void listOrder(Knot knot, List<Integer> order) {
    for (int key : knot.rows.keySet()) order.add(2 * key);
    for (int i = 0; i < knot.children.size(); i++) {
      listOrder(knot.children.get(i), order);
      if (i < knot.keys.size()) order.add(2 * knot.keys.get(i) + 1);
    }
  }

  private static Knot readKnot(List<byte[]> pages, int number, Set<Integer> met, boolean isRoot) {
    meet(met, number, pages);
    byte[] page = pages.get(number - 1);
    if (page[0] != 13 && page[0] != 5) throw new Bad();
    Knot knot = new Knot(number, page[0] == 13);
    int count = page[1] & 255;
    if (count > 30 || count == 0 && !(knot.leaf && isRoot)) throw new Bad();
    for (int i = 0; i < count; i++) {
      Reader in = new Reader(page, page[4 + i] & 255);
      int child = knot.leaf ? 0 : in.one();
      int length = knot.leaf ? in.varint() : 0;
      int key = in.varint();
      if (key > 1000000) throw new Bad();
      if (knot.leaf) {
        if (knot.rows.put(key, readRow(pages, in, length, met)) != null) throw new Bad();
      } else {
        knot.keys.add(key);
        knot.children.add(readKnot(pages, child, met, false));
      }
    }
    if (!knot.leaf) knot.children.add(readKnot(pages, page[2], met, false));
    if (room(cells(knot)) > 60) throw new Bad();
    return knot;
  }

  private static Row readRow(List<byte[]> pages, Reader in, int length, Set<Integer> met) {
    Row row = new Row();
    byte[] record;
    if (length <= 24) {
      record = in.many(length);
    } else {
      if (length > 400) throw new Bad();
      record = in.many(16);
      int page = in.one();
      while (page != 0) {
        meet(met, page, pages);
        row.chain.add(page);
        record = join(record, Arrays.copyOfRange(pages.get(page - 1), 1, 64));
        page = pages.get(page - 1)[0];
      }
      if (record.length < length || record.length - length >= 63) throw new Bad();
      record = Arrays.copyOf(record, length);
    }
    Reader codes = new Reader(record, 0);
    int head = codes.varint();
    Reader values = new Reader(record, head);
    while (codes.at < head) {
      int code = codes.varint();
      byte[] value = values.many(width(code));
      if (code >= 12) row.columns.add(value);
      else if (code >= 8) row.columns.add(code - 8L);
      else row.columns.add(new java.math.BigInteger(value).longValue());
    }
    if (row.columns.isEmpty() || row.columns.size() > 3) throw new Bad();
    if (!Arrays.equals(record(row), record)) throw new Bad();
    return row;
  }

  static boolean same(List<byte[]> a, List<byte[]> b) {
    if (a.size() != b.size()) return false;
    for (int i = 0; i < a.size(); i++) if (!Arrays.equals(a.get(i), b.get(i))) return false;
    return true;
  }

  static List<byte[]> copy(List<byte[]> pages) {
    List<byte[]> all = new ArrayList<>();
    for (byte[] page : pages) all.add(page.clone());
    return all;
  }

  // ---- the tree ----

  private int take() {
    if (!now.free.isEmpty()) return now.free.pop();
    if (now.pages == 24) throw new Bad();
    return ++now.pages;
  }

  private static int childSlot(Knot knot, int key) {
    int i = 0;
    while (i < knot.keys.size() && knot.keys.get(i) < key) i++;
    return i;
  }

  private Knot leafOf(int key) {
    Knot knot = now.root;
    while (!knot.leaf) knot = knot.children.get(childSlot(knot, key));
    return knot;
  }

  private Row rowOf(int key) {
    return now == null ? null : leafOf(key).rows.get(key);
  }

  private void insertBelow(Knot knot, Knot above, int key, Row row) {
    if (knot.leaf) knot.rows.put(key, row);
    else insertBelow(knot.children.get(childSlot(knot, key)), knot, key, row);
    if (room(cells(knot)) <= 60) return;
    if (above == null) {
      Knot lower = new Knot(take(), knot.leaf);
      lower.rows = knot.rows;
      lower.keys = knot.keys;
      lower.children = knot.children;
      knot.leaf = false;
      knot.rows = new TreeMap<>();
      knot.keys = new ArrayList<>();
      knot.children = new ArrayList<>(List.of(lower));
      split(lower, knot);
    } else {
      split(knot, above);
    }
  }

  private void split(Knot knot, Knot above) {
    Knot r = new Knot(take(), knot.leaf);
    List<byte[]> cells = cells(knot);
    int k = cells.size();
    while (room(cells.subList(0, k)) > 60) k--;
    int key = 0;
    for (int i = 0; i < k; i++) {
      if (knot.leaf) {
        key = knot.rows.firstKey();
        r.rows.put(key, knot.rows.remove(key));
      } else {
        key = knot.keys.remove(0);
        r.children.add(knot.children.remove(0));
        if (i < k - 1) r.keys.add(key);
      }
    }
    int at = above.children.indexOf(knot);
    above.children.add(at, r);
    above.keys.add(at, key);
  }

  private void removeBelow(Knot knot, Knot above, Knot twoAbove, int key) {
    if (!knot.leaf) {
      removeBelow(knot.children.get(childSlot(knot, key)), knot, above, key);
      return;
    }
    Row row = knot.rows.remove(key);
    for (int page : row.chain) now.free.push(page);
    if (!knot.rows.isEmpty() || above == null) return;
    now.free.push(knot.page);
    int at = above.children.indexOf(knot);
    above.children.remove(at);
    above.keys.remove(Math.min(at, above.keys.size() - 1));
    if (!above.keys.isEmpty()) return;
    Knot only = above.children.get(0);
    if (twoAbove == null) {
      now.free.push(only.page);
      above.leaf = only.leaf;
      above.rows = only.rows;
      above.keys = only.keys;
      above.children = only.children;
    } else {
      twoAbove.children.set(twoAbove.children.indexOf(above), only);
      now.free.push(above.page);
    }
  }

  List<Integer> keys() {
    List<Integer> order = new ArrayList<>();
    if (now != null) listOrder(now.root, order);
    List<Integer> keys = new ArrayList<>();
    for (int twice : order) if (twice % 2 == 0) keys.add(twice / 2);
    return keys;
  }

  int depth() {
    return depth(now.root);
  }

  private static int depth(Knot knot) {
    int depth = 0;
    for (Knot child : knot.children) depth = Math.max(depth, 1 + depth(child));
    return depth;
  }

  // ---- the face ----

  boolean number(long v) {
    return draft.size() < 3 && draft.add(v);
  }

  boolean blob(boolean more, int n, long v) {
    if (n < 0 || n > 8) return false;
    byte[] eight = java.nio.ByteBuffer.allocate(8).putLong(v).array();
    byte[] part = Arrays.copyOfRange(eight, 8 - n, 8);
    if (!more) return draft.size() < 3 && draft.add(part);
    if (draft.isEmpty()) return false;
    Object last = draft.get(draft.size() - 1);
    if (!(last instanceof byte[] b) || b.length + n > 100) return false;
    draft.set(draft.size() - 1, join(b, part));
    return true;
  }

  void clear() {
    draft.clear();
  }

  int insert(int key) {
    if (now == null) return -3;
    if (draft.isEmpty() || key < 0 || key > 1000000) return -1;
    if (rowOf(key) != null) return 0;
    List<byte[]> before = pagesOf(now);
    try {
      Row row = new Row();
      row.columns.addAll(draft);
      for (int i = chainLength(row); i > 0; i--) row.chain.add(take());
      insertBelow(now.root, null, key, row);
      return 1;
    } catch (Bad full) {
      now = stateOf(before);
      return -2;
    }
  }

  int remove(int key) {
    if (now == null) return -3;
    if (rowOf(key) == null) return 0;
    removeBelow(now.root, null, null, key);
    return 1;
  }

  int commit() {
    if (now == null) return -3;
    if (same(pagesOf(now), disk)) return 0;
    now.changes = (now.changes + 1) % 65536;
    List<byte[]> wanted = pagesOf(now);
    List<Integer> different = new ArrayList<>();
    int records = 0;
    for (int p = 1; p <= wanted.size(); p++) {
      if (p > disk.size() || !Arrays.equals(wanted.get(p - 1), disk.get(p - 1))) {
        different.add(p);
        if (p <= disk.size()) records++;
      }
    }
    int writes = records + 1 + different.size() + 1;
    int done = armed >= 0 && armed < writes ? armed : writes;
    if (done > records) {
      journal = copy(disk);
      headRecords = records;
    }
    for (int w = records + 1; w <= done && w < writes - 1; w++) {
      int p = different.get(w - records - 1);
      if (w < done) {
        if (p > disk.size()) disk.add(wanted.get(p - 1).clone());
        else disk.set(p - 1, wanted.get(p - 1).clone());
      } else if (p <= disk.size()) {
        System.arraycopy(wanted.get(p - 1), 0, disk.get(p - 1), 0, 32);
      }
    }
    if (done < writes) {
      touched = different;
      crash();
      return -3;
    }
    journal = null;
    if (armed >= 0) armed -= writes;
    return different.size();
  }

  /** The pages that the journal has records of, and new ones. */
  private List<Integer> touched = new ArrayList<>();

  boolean undo() {
    if (now == null) return false;
    now = stateOf(disk);
    return true;
  }

  boolean crash() {
    if (now == null) return false;
    now = null;
    armed = -1;
    return true;
  }

  boolean arm(int k) {
    if (now == null || k < 0 || k > 60) return false;
    armed = k;
    return true;
  }

  int open() {
    if (now != null) return -3;
    if (journal != null) {
      for (int p : touched) if (p <= journal.size()) disk.set(p - 1, journal.get(p - 1));
      while (disk.size() > journal.size()) disk.remove(disk.size() - 1);
      journal = null;
    }
    now = stateOf(disk);
    return now == null ? -1 : keys().size();
  }

  boolean spoil(int page, int at, int v) {
    if (now != null || page < 1 || page > disk.size() || at < 0 || at > 63 || v < 0 || v > 255) return false;
    disk.get(page - 1)[at] = (byte) v;
    return true;
  }

  int rows() {
    return now == null ? -3 : keys().size();
  }

  int key(int i) {
    return i < 0 || i >= keys().size() ? -1 : keys().get(i);
  }

  int columns(int key) {
    return rowOf(key) == null ? -1 : rowOf(key).columns.size();
  }

  private Object column(int key, int c) {
    return c < 0 || c >= columns(key) ? null : rowOf(key).columns.get(c);
  }

  int code(int key, int c) {
    return column(key, c) == null ? -1 : code(column(key, c));
  }

  long value(int key, int c, int i) {
    Object column = column(key, c);
    if (column instanceof Long v) return v;
    if (column instanceof byte[] b && i >= 0 && i < b.length) return b[i] & 255;
    return 0;
  }

  /** Null if the machine is down. */
  List<byte[]> pages() {
    return now == null ? null : pagesOf(now);
  }

  int octet(int page, int at, boolean onDisk) {
    List<byte[]> pages = onDisk ? disk : pages();
    if (pages == null || page < 1 || page > pages.size() || at < 0 || at > 63) return -1;
    return pages.get(page - 1)[at] & 255;
  }

  int journal(int what) {
    switch (what) {
      case 0: return journal == null ? 0 : 1;
      case 1: return journal == null ? 0 : journal.size();
      case 2: return journal == null ? 0 : headRecords;
      case 3: return disk.size();
      default: return -1;
    }
  }

  // ---- other files that may be as they must be ----

  /**
   * The same rows with other inner pages above their leaves, the pages numbered anew and the inner pages' keys moved;
   * null if the disk has no right file.
   */
  static List<byte[]> variant(List<byte[]> disk, Random random) {
    State state = stateOf(disk);
    if (state == null) return null;
    if (random.nextBoolean()) reshape(state, random);
    List<Integer> numbers = new ArrayList<>();
    for (int p = 2; p <= state.pages; p++) numbers.add(p);
    java.util.Collections.shuffle(numbers, random);
    state.changes = random.nextInt(4) == 0 ? 65535 : random.nextInt(65536);
    Deque<Integer> free = new ArrayDeque<>();
    for (int page : state.free) free.add(numbers.get(page - 2));
    state.free = free;
    renumber(state.root, numbers, random);
    return pagesOf(state);
  }

  /** Inner pages are taken from the free ones and given back; if some tries need too many, all stays as it is. */
  private static void reshape(State state, Random random) {
    List<Knot> leaves = new ArrayList<>();
    List<Integer> inner = new ArrayList<>();
    gather(state.root, leaves, inner);
    for (int i = 0; i < 20; i++) {
      Deque<Integer> pages = new ArrayDeque<>(state.free);
      pages.addAll(inner);
      try {
        state.root = build(leaves, pages, random);
        state.free = pages;
        return;
      } catch (Bad bad) {
        continue;
      }
    }
  }

  private static void gather(Knot knot, List<Knot> leaves, List<Integer> inner) {
    if (knot.leaf) leaves.add(knot);
    else inner.add(knot.page);
    for (Knot child : knot.children) gather(child, leaves, inner);
  }

  private static Knot build(List<Knot> leaves, Deque<Integer> pages, Random random) {
    if (leaves.size() == 1) return leaves.get(0);
    if (pages.isEmpty()) throw new Bad();
    Knot knot = new Knot(pages.pop(), false);
    int most = random.nextBoolean() ? 2 : Math.min(leaves.size(), 13);
    int from = 0;
    for (int left = 2 + random.nextInt(most - 1); left > 0; left--) {
      int end = left == 1 ? leaves.size() : from + 1 + random.nextInt(leaves.size() - from - left + 1);
      knot.children.add(build(leaves.subList(from, end), pages, random));
      if (left > 1) knot.keys.add(greatest(knot.children.get(knot.children.size() - 1)));
      from = end;
    }
    return knot;
  }

  private static void renumber(Knot knot, List<Integer> numbers, Random random) {
    knot.page = numbers.get(knot.page - 2);
    for (Row row : knot.rows.values()) row.chain.replaceAll(page -> numbers.get(page - 2));
    for (Knot child : knot.children) renumber(child, numbers, random);
    for (int i = 0; i < knot.keys.size(); i++) {
      int low = greatest(knot.children.get(i));
      int high = least(knot.children.get(i + 1));
      int key = low + random.nextInt(high - low);
      if (varint(key).length <= varint(knot.keys.get(i)).length) knot.keys.set(i, key);
    }
  }

  private static int greatest(Knot knot) {
    return knot.leaf ? knot.rows.lastKey() : greatest(knot.children.get(knot.children.size() - 1));
  }

  private static int least(Knot knot) {
    return knot.leaf ? knot.rows.firstKey() : least(knot.children.get(0));
  }
}
