import java.util.List;
import java.util.Random;

/** Random runs of calls, each answered by the class and by the model; every byte and every row is compared, too. */
public final class RandomRunsTest {
  private static final int RUNS = 600;
  private static final int CALLS = 300;
  private static final int[] NO_KEYS = {-1, 1000001, Integer.MIN_VALUE, Integer.MAX_VALUE};
  private static final long[] NUMBERS = {
    0, 1, 2, -1, 127, 128, -128, -129, 32767, 32768, -32768, -32769, Integer.MAX_VALUE, Integer.MIN_VALUE,
    Integer.MAX_VALUE + 1L, Integer.MIN_VALUE - 1L, Long.MAX_VALUE, Long.MIN_VALUE
  };

  private final Random random;
  private final RowFile file = new RowFile();
  private final Model model = new Model();
  private final int keySpan;
  private final int longness;
  private String name;
  private static int opened;
  private static int refused;
  private static int full;
  private static int wentDown;
  private static int deepest;

  private RandomRunsTest(int seed) {
    random = new Random(seed);
    name = "seed " + seed;
    keySpan = new int[] {12, 60, 300, 20000, 1000001}[random.nextInt(5)];
    longness = random.nextInt(4);
  }

  public static void main(String[] args) {
    for (int seed = 0; seed < RUNS && Due.wrong() == 0; seed++) new RandomRunsTest(seed).run();
    System.out.println("opened " + opened + ", refused " + refused + ", full " + full + ", went down " + wentDown
        + ", deepest " + deepest);
    Due.due("all kinds of runs were met", true,
        opened > 1000 && refused > 500 && full > 100 && wentDown > 1000 && deepest > 4);
    Due.end();
  }

  private void run() {
    for (int i = 0; i < CALLS && Due.wrong() == 0; i++) {
      if (model.rows() == -3) callDown();
      else callUp();
      if (i % 10 == 0) compareAll();
    }
    compareAll();
  }

  private int someKey() {
    List<Integer> keys = model.keys();
    if (!keys.isEmpty() && random.nextInt(3) == 0) return keys.get(random.nextInt(keys.size()));
    if (random.nextInt(40) == 0) return NO_KEYS[random.nextInt(NO_KEYS.length)];
    return random.nextInt(10) == 0 ? 1000000 : random.nextInt(keySpan);
  }

  private void callUp() {
    int what = random.nextInt(100);
    if (what < 15) makeDraft();
    else if (what < 55) insert(someKey());
    else if (what < 75) remove();
    else if (what < 83) commit();
    else if (what < 85) Due.due(name + " undo", model.undo(), file.undo());
    else if (what < 87) Due.due(name + " crash", model.crash(), file.crash());
    else if (what < 92) arm(random.nextInt(5) == 0 ? random.nextInt(70) - 4 : random.nextInt(12));
    else if (what < 93) Due.due(name + " open", model.open(), file.open());
    else if (what < 94) spoil(random.nextInt(26), random.nextInt(66) - 1, random.nextInt(258) - 1);
    else look();
  }

  private void callDown() {
    int what = random.nextInt(20);
    if (what < 6) open();
    else if (what < 8) spoilAndOpen();
    else if (what < 10) changeFile();
    else if (what < 11) makeDraft();
    else if (what < 12) insert(someKey());
    else if (what < 13) remove();
    else if (what < 14) commit();
    else if (what < 15) arm(3);
    else if (what < 16) Due.due(name + " crash", model.crash(), file.crash());
    else if (what < 17) Due.due(name + " undo", model.undo(), file.undo());
    else look();
  }

  private void makeDraft() {
    if (random.nextInt(8) != 0) {
      file.clear();
      model.clear();
    }
    int columns = 1 + random.nextInt(4);
    for (int c = 0; c < columns; c++) {
      if (random.nextBoolean()) {
        boolean any = random.nextInt(3) == 0;
        long v = any ? random.nextLong() >> random.nextInt(64) : NUMBERS[random.nextInt(NUMBERS.length)];
        Due.due(name + " number " + v, model.number(v), file.number(v));
      } else {
        blob(false, random.nextInt(9));
        int more = longness == 0 ? random.nextInt(3) : random.nextInt(4 * longness + 2);
        for (int i = 0; i < more; i++) blob(true, 8 - random.nextInt(random.nextInt(9) + 1));
      }
      if (random.nextInt(10) == 0) blob(random.nextBoolean(), random.nextInt(14) - 3);
    }
  }

  private void blob(boolean more, int n) {
    long v = random.nextInt(5) == 0 ? 0 : random.nextLong();
    Due.due(name + " blob " + more + " " + n, model.blob(more, n, v), file.blob(more, n, v));
  }

  private void insert(int key) {
    int due = model.insert(key);
    if (due == -2) full++;
    Due.due(name + " insert " + key, due, file.insert(key));
    if (model.rows() != -3) deepest = Math.max(deepest, model.depth());
  }

  private void remove() {
    int key = someKey();
    Due.due(name + " remove " + key, model.remove(key), file.remove(key));
  }

  private void commit() {
    int due = model.commit();
    if (due == -3) wentDown++;
    Due.due(name + " commit", due, file.commit());
    for (int what = -1; what < 5; what++) Due.due(name + " journal " + what, model.journal(what), file.journal(what));
  }

  private void arm(int k) {
    Due.due(name + " arm " + k, model.arm(k), file.arm(k));
  }

  private void open() {
    int due = model.open();
    if (due == -1) refused++;
    if (due >= 0) opened++;
    Due.due(name + " open", due, file.open());
  }

  private void spoil(int page, int at, int v) {
    Due.due(name + " spoil " + page + " " + at + " " + v, model.spoil(page, at, v), file.spoil(page, at, v));
  }

  /** One byte of the disk is another one for an opening, so that runs seldom end with a file that nobody can open. */
  private void spoilAndOpen() {
    int page = 1 + random.nextInt(model.disk.size());
    int at = random.nextInt(3) == 0 ? random.nextInt(8) : random.nextInt(64);
    int old = model.octet(page, at, true);
    int v = random.nextInt(3) == 0 ? random.nextInt(256) : Math.floorMod(old + random.nextInt(5) - 2, 256);
    spoil(page, at, v);
    open();
    if (model.rows() == -3) spoil(page, at, old);
  }

  private void changeFile() {
    List<byte[]> wanted = Model.variant(model.disk, random);
    if (wanted == null || model.journal(0) == 1) return;
    for (int p = 1; p <= wanted.size(); p++) {
      for (int at = 0; at < 64; at++) {
        int v = wanted.get(p - 1)[at] & 255;
        if (v != model.octet(p, at, true)) spoil(p, at, v);
      }
    }
    open();
    Due.due(name + " opened with pages numbered anew", true, model.rows() >= 0);
  }

  private void look() {
    int key = someKey();
    int c = random.nextInt(5) - 1;
    int i = random.nextInt(104) - 2;
    Due.due(name + " columns " + key, model.columns(key), file.columns(key));
    Due.due(name + " code " + key + " " + c, model.code(key, c), file.code(key, c));
    Due.due(name + " value " + key + " " + c + " " + i, model.value(key, c, i), file.value(key, c, i));
    Due.due(name + " key " + i, model.key(i), file.key(i));
  }

  private void compareAll() {
    for (int page = 0; page <= 25; page++) {
      for (int at = page == 3 ? -1 : 0; at < (page == 3 ? 65 : 64); at++) {
        String octet = name + " octet " + page + " " + at;
        Due.due(octet + " on the disk", model.octet(page, at, true), file.octet(page, at, true));
      }
    }
    List<byte[]> pages = model.pages();
    for (int page = 1; page <= 24; page++) {
      for (int at = 0; at < 64; at++) {
        int due = pages == null || page > pages.size() ? -1 : pages.get(page - 1)[at] & 255;
        Due.due(name + " octet " + page + " " + at, due, file.octet(page, at, false));
      }
    }
    List<Integer> keys = model.keys();
    Due.due(name + " rows", model.rows(), file.rows());
    for (int i = 0; i < keys.size(); i++) Due.due(name + " key " + i, keys.get(i), file.key(i));
    Due.due(name + " key behind the last", -1, file.key(keys.size()));
    for (int key : keys) {
      for (int c = 0; c < 3; c++) {
        Due.due(name + " code " + key + " " + c, model.code(key, c), file.code(key, c));
        for (int i = 0; i < 102; i += 17) {
          Due.due(name + " value " + key + " " + c + " " + i, model.value(key, c, i), file.value(key, c, i));
        }
      }
    }
  }
}
