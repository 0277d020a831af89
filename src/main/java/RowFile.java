import java.util.Arrays;

/**
 * A file of rows in pages, committed whole or not at all by a journal.
 * The document (DOC.md) says what each public call does, promise by promise.
 */
public final class RowFile {
    public static final int NONE = -1;
    public static final int FULL = -2;
    public static final int DOWN = -3;

    private static final int PAGE_LIMIT = 24;
    private static final int PAGE_SIZE = 64;
    private static final int TORN_SIZE = 32;
    private static final int GREATEST_KEY = 1000000;
    private static final int GREATEST_ARM = 60;
    private static final int NOT_ARMED = -1;

    private static final int COLUMN_LIMIT = 3;
    private static final int BLOB_LIMIT = 100;
    private static final int PIECE_LIMIT = 8;
    private static final int BLOB_CODE = 12;
    private static final int RECORD_LIMIT = 1 + 2 * COLUMN_LIMIT + BLOB_LIMIT * COLUMN_LIMIT;
    private static final int WHOLE_RECORD = 24;
    private static final int RECORD_HEAD = 16;
    private static final int CHAIN_PART = 63;
    private static final int VARINT_LIMIT = 3;

    private static final int FILE_MARK = 83;
    private static final int LEAF_MARK = 13;
    private static final int INNER_MARK = 5;

    private static final int PAGES_AT = 1;
    private static final int FREE_AT = 2;
    private static final int FREE_COUNT_AT = 3;
    private static final int CHANGES_AT = 4;
    private static final int ROOT_AT = 6;
    private static final int FILE_HEAD_SIZE = 7;

    private static final int COUNT_AT = 1;
    private static final int LAST_AT = 2;
    private static final int PLACES_AT = 4;
    private static final int ROOM = PAGE_SIZE - PLACES_AT;

    private final Draft draft = new Draft();
    private final Pages now = new Pages();
    private final Pages before = new Pages();
    private final Disk disk = new Disk();
    private final RowRecord row = new RowRecord();
    private final Node node = new Node();
    private final Tree tree = new Tree(now, node, row);
    private final FileCheck check = new FileCheck(disk.file, node, row);
    private boolean up = true;
    private int armed = NOT_ARMED;

    public RowFile() {
        now.makeEmptyFile();
        disk.file.copyAll(now);
    }

    public boolean number(long v) {
        return draft.addNumber(v);
    }

    public boolean blob(boolean more, int n, long v) {
        if (n < 0 || n > PIECE_LIMIT) {
            return false;
        }
        if (!more && !draft.addBlob()) {
            return false;
        }
        return draft.extendBlob(n, v);
    }

    public void clear() {
        draft.count = 0;
    }

    public int insert(int key) {
        if (!up) {
            return DOWN;
        }
        if (draft.count == 0 || key < 0 || key > GREATEST_KEY) {
            return NONE;
        }
        if (tree.find(key)) {
            return 0;
        }
        before.copyAll(now);
        row.encode(draft);
        if (tree.place(key)) {
            return 1;
        }
        now.copyAll(before);
        return FULL;
    }

    public int remove(int key) {
        if (!up) {
            return DOWN;
        }
        if (!tree.find(key)) {
            return 0;
        }
        tree.takeOut();
        return 1;
    }

    public int commit() {
        if (!up) {
            return DOWN;
        }
        if (disk.markDifferent(now) == 0) {
            return 0;
        }
        now.countChange();
        int different = disk.markDifferent(now);
        if (writeRecords() && writeHead() && writePages() && dropHead()) {
            return different;
        }
        goDown();
        return DOWN;
    }

    public boolean undo() {
        if (!up) {
            return false;
        }
        now.copyAll(disk.file);
        return true;
    }

    public boolean crash() {
        if (!up) {
            return false;
        }
        goDown();
        return true;
    }

    public boolean arm(int k) {
        if (!up || k < 0 || k > GREATEST_ARM) {
            return false;
        }
        armed = k;
        return true;
    }

    public int open() {
        if (up) {
            return DOWN;
        }
        disk.rollBack();
        if (!check.holds()) {
            return NONE;
        }
        now.copyAll(disk.file);
        up = true;
        return tree.countRows();
    }

    public boolean spoil(int page, int at, int v) {
        if (up || !disk.file.has(page, at) || v < 0 || v > 255) {
            return false;
        }
        disk.file.put(page, at, v);
        return true;
    }

    public int rows() {
        return up ? tree.countRows() : DOWN;
    }

    public int key(int i) {
        return up ? tree.keyOfRow(i) : NONE;
    }

    public int columns(int key) {
        return load(key) ? row.count : NONE;
    }

    public int code(int key, int c) {
        return load(key) && row.hasColumn(c) ? row.codes[c] : NONE;
    }

    public long value(int key, int c, int i) {
        if (!load(key) || !row.hasColumn(c)) {
            return 0;
        }
        return row.codes[c] >= BLOB_CODE ? row.blobByte(c, i) : row.integer(c);
    }

    public int octet(int page, int at, boolean onDisk) {
        if (!onDisk && !up) {
            return NONE;
        }
        Pages pages = onDisk ? disk.file : now;
        return pages.has(page, at) ? pages.get(page, at) : NONE;
    }

    public int journal(int what) {
        switch (what) {
            case 0:
                return disk.headThere ? 1 : 0;
            case 1:
                return disk.headThere ? disk.headPages : 0;
            case 2:
                return disk.headThere ? disk.headRecords : 0;
            case 3:
                return disk.file.count;
            default:
                return NONE;
        }
    }

    private boolean load(int key) {
        return up && tree.find(key) && tree.readRow();
    }

    private void goDown() {
        up = false;
        armed = NOT_ARMED;
    }

    /** Every write to the disk asks here first, so that none is left out of the count. */
    private boolean writeFails() {
        if (armed == 0) {
            return true;
        }
        if (armed > 0) {
            armed--;
        }
        return false;
    }

    private boolean writeRecords() {
        disk.startJournal();
        for (int page = 1; page <= PAGE_LIMIT; page++) {
            if (disk.different[page] && page <= disk.file.count) {
                if (writeFails()) {
                    return false;
                }
                disk.writeRecord(page);
            }
        }
        return true;
    }

    private boolean writeHead() {
        if (writeFails()) {
            return false;
        }
        disk.headPages = disk.file.count;
        disk.headThere = true;
        return true;
    }

    private boolean writePages() {
        for (int page = 1; page <= PAGE_LIMIT; page++) {
            if (disk.different[page]) {
                if (writeFails()) {
                    disk.tearPage(now, page);
                    return false;
                }
                disk.writePage(now, page);
            }
        }
        return true;
    }

    private boolean dropHead() {
        if (writeFails()) {
            return false;
        }
        disk.headThere = false;
        return true;
    }

    private static int varintSize(int v) {
        if (v < 1 << 7) {
            return 1;
        }
        return v < 1 << 14 ? 2 : 3;
    }

    /** Answers where the next byte stands. */
    private static int writeVarint(byte[] bytes, int at, int v) {
        int size = varintSize(v);
        if (at < 0 || at + size > bytes.length) {
            return at;
        }
        for (int i = 0; i < size; i++) {
            int group = v >> 7 * (size - 1 - i) & 127;
            bytes[at + i] = (byte) (i < size - 1 ? group + 128 : group);
        }
        return at + size;
    }

    /** Answers NONE if no varint of as few bytes as can be stands there, ahead of end. */
    private static int readVarint(byte[] bytes, int at, int end) {
        if (at < 0 || end > bytes.length) {
            return NONE;
        }
        int v = 0;
        for (int i = 0; i < VARINT_LIMIT && at + i < end; i++) {
            int group = bytes[at + i] & 255;
            if (i == 0 && group == 128) {
                return NONE;
            }
            v = v << 7 | group & 127;
            if (group < 128) {
                return v;
            }
        }
        return NONE;
    }

    private static int codeOf(long v) {
        if (v == 0 || v == 1) {
            return 8 + (int) v;
        }
        if (v == (byte) v) {
            return 1;
        }
        if (v == (short) v) {
            return 2;
        }
        return v == (int) v ? 4 : 6;
    }

    /** Answers NONE if there is no such code. */
    private static int valueSize(int code) {
        switch (code) {
            case 1:
            case 2:
            case 4:
                return code;
            case 6:
                return 8;
            case 8:
            case 9:
                return 0;
            default:
                boolean ofBlob = code >= BLOB_CODE && code <= BLOB_CODE + 2 * BLOB_LIMIT && code % 2 == 0;
                return ofBlob ? (code - BLOB_CODE) / 2 : NONE;
        }
    }

    /** How many bytes of a record stand in its leaf. */
    private static int sizeInLeaf(int length) {
        return length <= WHOLE_RECORD ? length : RECORD_HEAD;
    }

    private static int chainPages(int length) {
        return (length - sizeInLeaf(length) + CHAIN_PART - 1) / CHAIN_PART;
    }

    /** The columns of the row that is being made. */
    private static final class Draft {
        private final int[] codes = new int[COLUMN_LIMIT];
        private final long[] numbers = new long[COLUMN_LIMIT];
        private final byte[] blobs = new byte[COLUMN_LIMIT * BLOB_LIMIT];
        private int count;

        boolean addNumber(long v) {
            if (count >= COLUMN_LIMIT) {
                return false;
            }
            codes[count] = codeOf(v);
            numbers[count] = v;
            count++;
            return true;
        }

        boolean addBlob() {
            if (count >= COLUMN_LIMIT) {
                return false;
            }
            codes[count] = BLOB_CODE;
            count++;
            return true;
        }

        boolean extendBlob(int n, long v) {
            int c = count - 1;
            if (c < 0 || c >= COLUMN_LIMIT || codes[c] < BLOB_CODE) {
                return false;
            }
            int size = valueSize(codes[c]);
            if (n < 0 || size < 0 || size + n > BLOB_LIMIT) {
                return false;
            }
            for (int i = 0; i < n; i++) {
                blobs[c * BLOB_LIMIT + size + i] = (byte) (v >> 8 * (n - 1 - i));
            }
            codes[c] += 2 * n;
            return true;
        }
    }

    /** The record of one row: made from the draft, or read from the file. */
    private static final class RowRecord {
        private final byte[] bytes = new byte[RECORD_LIMIT];
        private int length;
        private final int[] codes = new int[COLUMN_LIMIT];
        private final int[] starts = new int[COLUMN_LIMIT];
        private int count;

        void encode(Draft draft) {
            int head = 1;
            for (int c = 0; c < draft.count; c++) {
                head += varintSize(draft.codes[c]);
            }
            length = writeVarint(bytes, 0, head);
            for (int c = 0; c < draft.count; c++) {
                length = writeVarint(bytes, length, draft.codes[c]);
            }
            for (int c = 0; c < draft.count; c++) {
                encodeValue(draft, c);
            }
        }

        private void encodeValue(Draft draft, int c) {
            int size = valueSize(draft.codes[c]);
            if (size < 0 || length + size > RECORD_LIMIT) {
                return;
            }
            if (draft.codes[c] >= BLOB_CODE) {
                System.arraycopy(draft.blobs, c * BLOB_LIMIT, bytes, length, size);
            } else {
                for (int i = 0; i < size; i++) {
                    bytes[length + i] = (byte) (draft.numbers[c] >> 8 * (size - 1 - i));
                }
            }
            length += size;
        }

        /** The record of a leaf's cell; the chain of it has the pages that it needs. */
        void read(Pages pages, Node leaf, int cell) {
            int whole = leaf.recordLength(cell);
            length = 0;
            if (whole < 0 || whole > RECORD_LIMIT) {
                return;
            }
            length = sizeInLeaf(whole);
            leaf.copyRecord(cell, whole, bytes);
            int page = leaf.chainStart(cell, whole);
            for (int i = 0; i < chainPages(whole); i++) {
                int part = Math.min(CHAIN_PART, whole - length);
                pages.copyOut(page, bytes, length, part);
                length += part;
                page = pages.get(page, 0);
            }
        }

        /** False if the bytes are not just those of some row's record. */
        boolean decode() {
            int head = length > 0 ? bytes[0] & 255 : 0;
            if (head > length) {
                return false;
            }
            int at = decodeCodes(head);
            if (at != head || count == 0) {
                return false;
            }
            for (int c = 0; c < count; c++) {
                starts[c] = at;
                at += valueSize(codes[c]);
                if (at > length) {
                    return false;
                }
                if (codes[c] < BLOB_CODE && codeOf(integer(c)) != codes[c]) {
                    return false;
                }
            }
            return at == length;
        }

        /** Answers where it came to: the end of the head, if that has the codes of a row. */
        private int decodeCodes(int head) {
            int at = 1;
            count = 0;
            for (int c = 0; c < COLUMN_LIMIT && at < head; c++) {
                int code = readVarint(bytes, at, head);
                if (valueSize(code) < 0) {
                    return NONE;
                }
                codes[c] = code;
                count++;
                at += varintSize(code);
            }
            return at;
        }

        boolean hasColumn(int c) {
            return c >= 0 && c < count;
        }

        long integer(int c) {
            int size = valueSize(codes[c]);
            if (size <= 0 || starts[c] + size > RECORD_LIMIT) {
                return codes[c] == 9 ? 1 : 0;
            }
            long v = bytes[starts[c]];
            for (int i = 1; i < size; i++) {
                v = v << 8 | bytes[starts[c] + i] & 255;
            }
            return v;
        }

        int blobByte(int c, int i) {
            if (i < 0 || i >= valueSize(codes[c]) || starts[c] + i >= RECORD_LIMIT) {
                return 0;
            }
            return bytes[starts[c] + i] & 255;
        }
    }

    /** A file's pages, numbered from 1 on. */
    private static final class Pages {
        private final byte[] bytes = new byte[PAGE_LIMIT * PAGE_SIZE];
        private int count;

        void makeEmptyFile() {
            count = 2;
            put(1, 0, FILE_MARK);
            put(1, PAGES_AT, 2);
            put(1, ROOT_AT, 2);
            put(2, 0, LEAF_MARK);
        }

        boolean has(int page, int at) {
            return page >= 1 && page <= count && at >= 0 && at < PAGE_SIZE;
        }

        int get(int page, int at) {
            return has(page, at) ? bytes[(page - 1) * PAGE_SIZE + at] & 255 : 0;
        }

        void put(int page, int at, int v) {
            if (has(page, at)) {
                bytes[(page - 1) * PAGE_SIZE + at] = (byte) v;
            }
        }

        void wipe(int page) {
            if (has(page, 0)) {
                int start = (page - 1) * PAGE_SIZE;
                Arrays.fill(bytes, start, start + PAGE_SIZE, (byte) 0);
            }
        }

        void copyAll(Pages from) {
            System.arraycopy(from.bytes, 0, bytes, 0, bytes.length);
            count = from.count;
        }

        /** The first bytes of a page become as they are in another file's page. */
        void copyPage(int page, Pages from, int source, int size) {
            if (has(page, size - 1) && from.has(source, size - 1)) {
                System.arraycopy(from.bytes, (source - 1) * PAGE_SIZE, bytes, (page - 1) * PAGE_SIZE, size);
            }
        }

        /** What a page of a chain holds, which stands behind its first byte. */
        void copyOut(int page, byte[] to, int at, int size) {
            if (has(page, size) && size >= 0 && at >= 0 && at + size <= to.length) {
                System.arraycopy(bytes, (page - 1) * PAGE_SIZE + 1, to, at, size);
            }
        }

        boolean samePage(int page, Pages other) {
            for (int at = 0; at < PAGE_SIZE; at++) {
                if (get(page, at) != other.get(page, at)) {
                    return false;
                }
            }
            return true;
        }

        boolean zerosFrom(int page, int from) {
            for (int at = from; at < PAGE_SIZE; at++) {
                if (get(page, at) != 0) {
                    return false;
                }
            }
            return true;
        }

        int root() {
            return get(1, ROOT_AT);
        }

        void countChange() {
            int changes = (get(1, CHANGES_AT) << 8 | get(1, CHANGES_AT + 1)) + 1;
            put(1, CHANGES_AT, changes >> 8);
            put(1, CHANGES_AT + 1, changes);
        }

        /** Answers 0 if there is no room. */
        int takePage() {
            int page = get(1, FREE_AT);
            if (page != 0) {
                put(1, FREE_AT, get(page, 0));
                put(1, FREE_COUNT_AT, get(1, FREE_COUNT_AT) - 1);
            } else {
                if (count >= PAGE_LIMIT) {
                    return 0;
                }
                count++;
                page = count;
                put(1, PAGES_AT, count);
            }
            wipe(page);
            return page;
        }

        void freePage(int page) {
            wipe(page);
            put(page, 0, get(1, FREE_AT));
            put(1, FREE_AT, page);
            put(1, FREE_COUNT_AT, get(1, FREE_COUNT_AT) + 1);
        }
    }

    /** What stays when the machine goes down: the file and the journal. */
    private static final class Disk {
        private final Pages file = new Pages();
        private final Pages records = new Pages();
        private final boolean[] recorded = new boolean[PAGE_LIMIT + 1];
        private final boolean[] different = new boolean[PAGE_LIMIT + 1];
        private boolean headThere;
        private int headPages;
        private int headRecords;

        int markDifferent(Pages now) {
            int marked = 0;
            for (int page = 1; page <= PAGE_LIMIT; page++) {
                different[page] = page <= now.count && (page > file.count || !now.samePage(page, file));
                if (different[page]) {
                    marked++;
                }
            }
            return marked;
        }

        void startJournal() {
            records.count = file.count;
            headRecords = 0;
            for (int page = 0; page <= PAGE_LIMIT; page++) {
                recorded[page] = false;
            }
        }

        void writeRecord(int page) {
            if (file.has(page, 0)) {
                records.copyPage(page, file, page, PAGE_SIZE);
                recorded[page] = true;
                headRecords++;
            }
        }

        void writePage(Pages now, int page) {
            file.count = Math.max(file.count, Math.min(page, PAGE_LIMIT));
            file.copyPage(page, now, page, PAGE_SIZE);
        }

        /** Does nothing to a page that was not there: the file ends ahead of it. */
        void tearPage(Pages now, int page) {
            file.copyPage(page, now, page, TORN_SIZE);
        }

        void rollBack() {
            if (!headThere) {
                return;
            }
            file.count = headPages;
            for (int page = 1; page <= PAGE_LIMIT; page++) {
                if (recorded[page]) {
                    file.copyPage(page, records, page, PAGE_SIZE);
                }
            }
            headThere = false;
        }
    }

    /** The cells of the page in hand, which may be one more than the page has room for. */
    private static final class Node {
        private static final int CELL_LIMIT = ROOM / 2;
        private static final int CELL_SIZE = 32;

        /** The page as it was, and behind it the cell that has come to it. */
        private final byte[] bytes = new byte[PAGE_SIZE + CELL_SIZE];
        private final int[] starts = new int[CELL_LIMIT + 1];
        private final int[] sizes = new int[CELL_LIMIT + 1];
        private int count;
        private int last;
        private boolean leaf;

        /** False, and no cells, if the page's cells do not stand where they must, or its other bytes are not 0. */
        boolean load(Pages pages, int page) {
            for (int at = 0; at < PAGE_SIZE; at++) {
                bytes[at] = (byte) pages.get(page, at);
            }
            leaf = bytes[0] == LEAF_MARK;
            last = bytes[LAST_AT] & 255;
            int cells = bytes[COUNT_AT] & 255;
            count = 0;
            if (!leaf && bytes[0] != INNER_MARK || leaf && last != 0 || bytes[3] != 0 || cells > CELL_LIMIT) {
                return false;
            }
            return findCells(cells);
        }

        private boolean findCells(int cells) {
            int end = PAGE_SIZE;
            for (int i = 0; i < cells && i < CELL_LIMIT; i++) {
                starts[i] = bytes[PLACES_AT + i] & 255;
                sizes[i] = end - starts[i];
                end = starts[i];
                if (sizes[i] <= 0 || end < PLACES_AT + cells) {
                    return false;
                }
            }
            for (int at = PLACES_AT + cells; at < end; at++) {
                if (bytes[at] != 0) {
                    return false;
                }
            }
            count = cells;
            return true;
        }

        private boolean hasCell(int i) {
            return i >= 0 && i < count;
        }

        /** Answers NONE if no varint stands there. */
        int recordLength(int i) {
            return hasCell(i) ? readVarint(bytes, starts[i], starts[i] + sizes[i]) : NONE;
        }

        /** Answers NONE if no varint stands there. */
        int cellKey(int i) {
            if (!hasCell(i)) {
                return NONE;
            }
            int lead = 1;
            if (leaf) {
                int length = recordLength(i);
                if (length < 0) {
                    return NONE;
                }
                lead = varintSize(length);
            }
            return readVarint(bytes, starts[i] + lead, starts[i] + sizes[i]);
        }

        /** Whether a cell ends just where its numbers say. */
        boolean cellFits(int i) {
            int key = cellKey(i);
            if (key < 0) {
                return false;
            }
            if (!leaf) {
                return sizes[i] == 1 + varintSize(key);
            }
            int length = recordLength(i);
            int page = length > WHOLE_RECORD ? 1 : 0;
            return sizes[i] == varintSize(length) + varintSize(key) + sizeInLeaf(length) + page;
        }

        /** What a leaf's cell has of a record of this length, which is that of the cell. */
        void copyRecord(int i, int length, byte[] to) {
            int size = sizeInLeaf(length);
            int page = length > WHOLE_RECORD ? 1 : 0;
            if (hasCell(i) && size >= 0 && size <= to.length && size + page <= sizes[i]) {
                System.arraycopy(bytes, starts[i] + sizes[i] - page - size, to, 0, size);
            }
        }

        /** The first page of the chain of a record of this length, 0 if it has none. */
        int chainStart(int i, int length) {
            if (!hasCell(i) || length <= WHOLE_RECORD) {
                return 0;
            }
            return bytes[starts[i] + sizes[i] - 1] & 255;
        }

        /** The child of a cell; behind the cells, LAST. */
        int child(int i) {
            return hasCell(i) ? bytes[starts[i]] & 255 : last;
        }

        void setChild(int i, int page) {
            if (hasCell(i)) {
                bytes[starts[i]] = (byte) page;
            } else {
                last = page;
            }
        }

        /** The first cell whose key is not less; how many cells there are, if there is none. */
        int slotOf(int key) {
            for (int i = 0; i < count; i++) {
                if (cellKey(i) >= key) {
                    return i;
                }
            }
            return count;
        }

        void addCell(int i, byte[] cell, int size) {
            if (i < 0 || i > count || count >= starts.length || size > CELL_SIZE || size > cell.length) {
                return;
            }
            System.arraycopy(starts, i, starts, i + 1, count - i);
            System.arraycopy(sizes, i, sizes, i + 1, count - i);
            System.arraycopy(cell, 0, bytes, PAGE_SIZE, size);
            starts[i] = PAGE_SIZE;
            sizes[i] = size;
            count++;
        }

        void dropCell(int i) {
            if (hasCell(i)) {
                System.arraycopy(starts, i + 1, starts, i, count - i - 1);
                System.arraycopy(sizes, i + 1, sizes, i, count - i - 1);
                count--;
            }
        }

        /** How many cells, from the first one on, a page has room for. */
        int fitting() {
            int used = 0;
            for (int i = 0; i < count; i++) {
                used += 1 + sizes[i];
                if (used > ROOM) {
                    return i;
                }
            }
            return count;
        }

        /** Makes a page of this kind from some of the cells, which a page has room for. */
        void store(Pages pages, int page, int from, int to, int newLast) {
            pages.wipe(page);
            pages.put(page, 0, leaf ? LEAF_MARK : INNER_MARK);
            pages.put(page, COUNT_AT, to - from);
            pages.put(page, LAST_AT, newLast);
            int start = PAGE_SIZE;
            for (int i = from; i < to && hasCell(i); i++) {
                start -= sizes[i];
                pages.put(page, PLACES_AT + i - from, start);
                for (int k = 0; k < sizes[i]; k++) {
                    pages.put(page, start + k, bytes[starts[i] + k]);
                }
            }
        }

        void storeAll(Pages pages, int page) {
            store(pages, page, 0, count, last);
        }
    }

    /** The tree of the pages as they are now; only of files that are as they must be. */
    private static final class Tree {
        private final Pages pages;
        private final Node node;
        private final RowRecord row;
        /** The way from ROOT to the leaf that was looked for last, and the slot taken at each inner page. */
        private final int[] path = new int[PAGE_LIMIT + 1];
        private final int[] slots = new int[PAGE_LIMIT + 1];
        private int depth;
        private int slot;
        private final byte[] cell = new byte[Node.CELL_SIZE];
        private int cellSize;
        private final int[] waiting = new int[PAGE_LIMIT];
        private final int[] leaves = new int[PAGE_LIMIT];

        Tree(Pages pages, Node node, RowRecord row) {
            this.pages = pages;
            this.node = node;
            this.row = row;
        }

        /** Goes to the leaf of a key, which is in hand then; whether the key is there. */
        boolean find(int key) {
            int page = pages.root();
            for (depth = 0; depth < PAGE_LIMIT; depth++) {
                node.load(pages, page);
                path[depth] = page;
                slot = node.slotOf(key);
                slots[depth] = slot;
                if (node.leaf) {
                    break;
                }
                page = node.child(slot);
            }
            return node.leaf && key >= 0 && node.cellKey(slot) == key;
        }

        /** Reads the row that was found. */
        boolean readRow() {
            row.read(pages, node, slot);
            return row.decode();
        }

        /** Puts the record to the leaf that was found. False, with some of it done, if there is no room. */
        boolean place(int key) {
            int chain = 0;
            if (row.length > WHOLE_RECORD) {
                chain = writeChain();
                if (chain == 0) {
                    return false;
                }
            }
            makeLeafCell(key, chain);
            node.addCell(slot, cell, cellSize);
            return settle();
        }

        /** Answers the first page, 0 if there is no room. */
        private int writeChain() {
            int first = 0;
            int before = 0;
            int at = RECORD_HEAD;
            for (int i = 0; i < chainPages(row.length); i++) {
                int page = pages.takePage();
                if (page == 0) {
                    return 0;
                }
                if (before == 0) {
                    first = page;
                } else {
                    pages.put(before, 0, page);
                }
                for (int k = 1; k <= CHAIN_PART && at < row.length && at < RECORD_LIMIT; k++) {
                    pages.put(page, k, row.bytes[at]);
                    at++;
                }
                before = page;
            }
            return first;
        }

        private void makeLeafCell(int key, int chain) {
            int size = sizeInLeaf(row.length);
            cellSize = writeVarint(cell, 0, row.length);
            cellSize = writeVarint(cell, cellSize, key);
            if (size < 0 || cellSize + size >= cell.length) {
                return;
            }
            System.arraycopy(row.bytes, 0, cell, cellSize, size);
            cellSize += size;
            if (chain != 0) {
                cell[cellSize] = (byte) chain;
                cellSize++;
            }
        }

        private void makeInnerCell(int child, int key) {
            cell[0] = (byte) child;
            cellSize = writeVarint(cell, 1, key);
        }

        /** Splits, from the leaf up, each page that has no room for the cell that came to it. */
        private boolean settle() {
            int level = depth;
            for (int i = 0; i < PAGE_LIMIT && node.fitting() < node.count; i++) {
                if (level == 0) {
                    if (!deepenRoot()) {
                        return false;
                    }
                    level = 1;
                }
                int taken = pages.takePage();
                if (taken == 0) {
                    return false;
                }
                makeInnerCell(taken, splitTo(taken, path[level]));
                level--;
                node.load(pages, path[level]);
                node.addCell(slots[level], cell, cellSize);
            }
            node.storeAll(pages, path[level]);
            return true;
        }

        /** ROOT's number stays, so what it has goes to a page below it. */
        private boolean deepenRoot() {
            int below = pages.takePage();
            if (below == 0) {
                return false;
            }
            pages.wipe(path[0]);
            pages.put(path[0], 0, INNER_MARK);
            pages.put(path[0], LAST_AT, below);
            slots[0] = 0;
            path[1] = below;
            return true;
        }

        /** Answers the key that parts the two pages. */
        private int splitTo(int taken, int page) {
            int fitting = node.fitting();
            int key = node.cellKey(fitting - 1);
            if (node.leaf) {
                node.store(pages, taken, 0, fitting, 0);
            } else {
                node.store(pages, taken, 0, fitting - 1, node.child(fitting - 1));
            }
            node.store(pages, page, fitting, node.count, node.last);
            return key;
        }

        /** Removes the row that was found. */
        void takeOut() {
            int length = node.recordLength(slot);
            int page = node.chainStart(slot, length);
            node.dropCell(slot);
            node.storeAll(pages, path[depth]);
            for (int i = 0; i < chainPages(length); i++) {
                int next = pages.get(page, 0);
                pages.freePage(page);
                page = next;
            }
            if (node.count == 0 && depth > 0) {
                dropLeaf(path[depth - 1], slots[depth - 1]);
            }
        }

        private void dropLeaf(int above, int leadingSlot) {
            pages.freePage(path[depth]);
            node.load(pages, above);
            int dropped = leadingSlot;
            if (leadingSlot >= node.count) {
                dropped = node.count - 1;
                node.last = node.child(dropped);
            }
            node.dropCell(dropped);
            node.storeAll(pages, above);
            if (node.count == 0) {
                dropInner(above, node.last);
            }
        }

        /** An inner page that leads to one page only gives way to it. */
        private void dropInner(int page, int only) {
            if (depth < 2) {
                pages.copyPage(page, pages, only, PAGE_SIZE);
                pages.freePage(only);
                return;
            }
            node.load(pages, path[depth - 2]);
            node.setChild(slots[depth - 2], only);
            node.storeAll(pages, path[depth - 2]);
            pages.freePage(page);
        }

        /** Answers how many leaves there are. */
        private int listLeaves() {
            int found = 0;
            int left = 1;
            waiting[0] = pages.root();
            for (int i = 0; i < PAGE_LIMIT && left > 0; i++) {
                left--;
                int page = waiting[left];
                node.load(pages, page);
                if (node.leaf) {
                    leaves[found] = page;
                    found++;
                    continue;
                }
                for (int c = node.count; c >= 0 && left < PAGE_LIMIT; c--) {
                    waiting[left] = node.child(c);
                    left++;
                }
            }
            return found;
        }

        int countRows() {
            int found = 0;
            int leafCount = listLeaves();
            for (int i = 0; i < leafCount; i++) {
                found += pages.get(leaves[i], COUNT_AT);
            }
            return found;
        }

        /** Answers NONE if there is no such row. */
        int keyOfRow(int i) {
            int left = i;
            int leafCount = listLeaves();
            for (int k = 0; k < leafCount && left >= 0; k++) {
                int cells = pages.get(leaves[k], COUNT_AT);
                if (left < cells) {
                    node.load(pages, leaves[k]);
                    return node.cellKey(left);
                }
                left -= cells;
            }
            return NONE;
        }
    }

    /** Whether a file is exactly as it must be. */
    private static final class FileCheck {
        private final Pages file;
        private final Node node;
        private final RowRecord row;
        private final boolean[] reached = new boolean[PAGE_LIMIT + 1];
        /** The pages of the tree that were reached; their keys are greater than low and not greater than high. */
        private final int[] treePages = new int[PAGE_LIMIT];
        private final int[] lows = new int[PAGE_LIMIT];
        private final int[] highs = new int[PAGE_LIMIT];
        private int treeSize;

        FileCheck(Pages file, Node node, RowRecord row) {
            this.file = file;
            this.node = node;
            this.row = row;
        }

        boolean holds() {
            treeSize = 0;
            for (int page = 0; page <= PAGE_LIMIT; page++) {
                reached[page] = false;
            }
            if (!firstPageHolds() || !listHolds() || !reachTreePage(file.root(), NONE, GREATEST_KEY)) {
                return false;
            }
            for (int i = 0; i < treeSize && i < PAGE_LIMIT; i++) {
                if (!treePageHolds(treePages[i], lows[i], highs[i])) {
                    return false;
                }
            }
            return allReached();
        }

        private boolean firstPageHolds() {
            return file.get(1, 0) == FILE_MARK && file.get(1, PAGES_AT) == file.count
                    && file.zerosFrom(1, FILE_HEAD_SIZE);
        }

        private boolean listHolds() {
            int page = file.get(1, FREE_AT);
            int free = file.get(1, FREE_COUNT_AT);
            for (int i = 0; i < free; i++) {
                if (!reach(page) || !file.zerosFrom(page, 1)) {
                    return false;
                }
                page = file.get(page, 0);
            }
            return page == 0;
        }

        /** False if there is no such page, or it was reached before. */
        private boolean reach(int page) {
            if (page < 2 || page > PAGE_LIMIT || page > file.count || reached[page]) {
                return false;
            }
            reached[page] = true;
            return true;
        }

        private boolean reachTreePage(int page, int low, int high) {
            if (!reach(page) || treeSize >= PAGE_LIMIT) {
                return false;
            }
            treePages[treeSize] = page;
            lows[treeSize] = low;
            highs[treeSize] = high;
            treeSize++;
            return true;
        }

        private boolean allReached() {
            for (int page = 2; page <= PAGE_LIMIT; page++) {
                if (page <= file.count && !reached[page]) {
                    return false;
                }
            }
            return true;
        }

        private boolean treePageHolds(int page, int low, int high) {
            if (!node.load(file, page)) {
                return false;
            }
            if (node.count == 0) {
                return node.leaf && page == file.root();
            }
            int least = low;
            for (int i = 0; i < node.count; i++) {
                int key = node.cellKey(i);
                if (!node.cellFits(i) || key <= least || key > high) {
                    return false;
                }
                boolean cellHolds = node.leaf ? rowHolds(i) : reachTreePage(node.child(i), least, key);
                if (!cellHolds) {
                    return false;
                }
                least = key;
            }
            return node.leaf || reachTreePage(node.last, least, high);
        }

        private boolean rowHolds(int cell) {
            int length = node.recordLength(cell);
            if (length > RECORD_LIMIT || !chainHolds(node.chainStart(cell, length), length)) {
                return false;
            }
            row.read(file, node, cell);
            return row.decode();
        }

        private boolean chainHolds(int first, int length) {
            int page = first;
            int left = length - sizeInLeaf(length);
            for (int i = 0; i < chainPages(length); i++) {
                if (!reach(page) || !file.zerosFrom(page, 1 + Math.min(CHAIN_PART, left))) {
                    return false;
                }
                left -= CHAIN_PART;
                page = file.get(page, 0);
            }
            return page == 0;
        }
    }
}
