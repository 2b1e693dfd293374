import java.util.NoSuchElementException;

/**
 * A small store of blocks in MEMORY and on DISK. A block may be written at any time; what of it may
 * not be on DISK yet is rolled back in the copy that goes there.
 */
public final class RolledBack {
    public static final int NONE = -1;

    private static final int MEMORY = 0;
    private static final int DISK = 1;

    private static final int BLOCKS = 16;
    private static final int LEAST_BLOCKS = 6;
    private static final int ROW = 16;
    private static final int SIDE = BLOCKS * ROW;
    private static final int WIPE = 16;
    private static final int MAP = 0;
    /** The first block that is no map and holds no nodes. */
    private static final int ROOT_BLOCK = 4;

    private static final int NODES = 12;
    private static final int NODES_OF_BLOCK = 4;
    private static final int FIELDS = 4;
    private static final int LINKS = 0;
    private static final int TAG = 1;
    private static final int FIRST = 2;
    private static final int SECOND = 3;
    private static final int FILE = 1;
    private static final int DIRECTORY = 2;
    private static final int ENTRIES = 8;
    private static final int FREE_NAME = 0;
    private static final int NAMES = 99;
    private static final int VALUES = 99;

    /** Behind this come blocks, where one number tells either a node or a block. */
    private static final int BLOCK_MARK = 100;

    /** A step begins below 60 and a lessening brings at most 4 changes and 2 freeings: never above 240. */
    private static final int CHANGES = 256;
    private static final int NEEDS = 4;
    /** A step begins below 30 and a lessening leaves at most 2 freeings: never above 62. */
    private static final int WAITING = 64;
    private static final int FULL_CHANGES = 60;
    private static final int FULL_WAITING = 30;

    private static final int MAKE = 0;
    private static final int DIR = 1;
    private static final int LINK = 2;
    private static final int GROW = 3;
    private static final int PUT = 4;
    private static final int CUT = 5;
    private static final int DROP = 6;
    private static final int SWEEP = 7;
    private static final int WRITE = 8;
    private static final int SYNC = 9;
    private static final int CRASH = 10;
    private static final int AGAIN = 11;
    private static final int SIZE = 12;
    private static final int END = 13;
    /** The words by the numbers above, five places each. */
    private static final String WORDS = "make dir  link grow put  cut  drop sweepwritesync crashagainsize ";
    private static final int WORD = 5;

    private static final int CANNOT_STAND = 1;
    private static final int NO_SUCH_NUMBER = 2;
    private static final int TOO_MANY = 3;
    private static final int FAULT_LESS = 10;

    private static final int TAPE = 600;
    private static final int FEED = 20;
    private static final int WORK_BYTES = 150;
    private static final int BOOK_BYTES = 60;
    private static final int CLAUSES = 60;
    private static final int SCRIPT = 64;
    private static final int STEPS = 200;
    private static final int AGAINS = 6;
    private static final int WORKS = 16;
    private static final int NO_ROOM = -20;
    private static final int IMAGES = 3;
    private static final int MOST_WRITES = 200;
    private static final int FEW = 4;
    /** Far above what any run can need: every round of writes brings one change to DISK at least. */
    private static final int ROUNDS = 10000;
    private static final int TURNS = 100000;

    private static final int NO_SUCH = 0;
    private static final int ILLEGAL = 1;
    private static final int NULL = 2;
    private static final int OUTSIDE = 3;

    private final State now = new State();
    private final History works = new History();
    private final Image[] images = new Image[IMAGES];
    private final State[] spare = new State[FEW + 1];
    private final Pen pen = new Pen();
    private final Steps steps = new Steps();
    private final byte[] tape = new byte[TAPE];
    private final Reader reader = new Reader();
    private final int[] book = new int[ROW];
    private final byte[] copies = new byte[SIDE];
    /** What was found for each directory in one walk through a tree. */
    private final int[] known = new int[NODES];
    private final int[] refused = new int[4];
    private int imageCount;
    private int tapeLength;
    private int bookLines;
    private int faultPlace = NONE;
    private int refusedSteps;

    public RolledBack() {
        for (int k = 0; k < spare.length; k++) {
            spare[k] = new State();
        }
        clearBook();
    }

    // ---- texts

    public int feed(int a, int b, int c, int d, int e) {
        if (tapeLength > TAPE - FEED) {
            return NONE;
        }
        feedNumber(a);
        feedNumber(b);
        feedNumber(c);
        feedNumber(d);
        feedNumber(e);
        return tapeLength;
    }

    private void feedNumber(int number) {
        for (int shift = 24; shift >= 0 && tapeLength < TAPE; shift -= 8) {
            tape[tapeLength] = (byte) (number >>> shift);
            tapeLength++;
        }
    }

    public int store(int n) throws IllegalArgumentException {
        testLength(n, TAPE);
        int fault = reader.readStore(tape, n);
        textRead(fault);
        if (fault != 0) {
            return fault - FAULT_LESS;
        }
        buildStore(reader.script);
        clearBook();
        works.length = 0;
        imageCount = 0;
        refusedSteps = 0;
        return now.size;
    }

    private void buildStore(Script script) {
        now.begin(script.size);
        for (int k = 0; k < script.length; k++) {
            steps.take(now, script.op[k], script.a[k], script.b[k], script.c[k]);
            // A STORE's steps put nothing off, so all that SETTLE would do is to copy.
            now.allOnDisk();
        }
        now.forgetCounts();
    }

    private void clearBook() {
        for (int k = 0; k < ROW; k++) {
            book[k] = NONE;
        }
        bookLines = 0;
    }

    public int work(int n) throws IllegalArgumentException {
        testLength(n, WORK_BYTES);
        if (works.length >= WORKS) {
            textRead(0);
            return NO_ROOM;
        }
        int fault = reader.readWork(tape, n);
        textRead(fault);
        if (fault != 0) {
            return fault - FAULT_LESS;
        }
        works.push(now);
        return runScript(reader.script);
    }

    private int runScript(Script script) {
        int done = 0;
        int begun = 0;
        int next = 0;
        refusedSteps = 0;
        for (int turn = 0; turn < TURNS && next < script.length && begun < STEPS; turn++) {
            int op = script.op[next];
            if (op == END) {
                next = script.afterEnd(next);
            } else if (op == AGAIN) {
                begun++;
                next = script.afterAgain(next);
            } else {
                begun++;
                if (steps.take(now, op, script.a[next], script.b[next], script.c[next])) {
                    done++;
                } else {
                    refusedSteps++;
                }
                next++;
            }
        }
        return done;
    }

    public int book(int n) throws IllegalArgumentException {
        testLength(n, BOOK_BYTES);
        int fault = reader.readBook(tape, n);
        textRead(fault);
        if (fault != 0) {
            return fault - FAULT_LESS;
        }
        System.arraycopy(reader.lines, 0, book, 0, ROW);
        bookLines = reader.lineCount;
        return bookLines;
    }

    private void testLength(int n, int most) {
        if (n < 0 || n > tapeLength || n > most) {
            refused[ILLEGAL]++;
            throw new IllegalArgumentException("no such length");
        }
    }

    private void textRead(int fault) {
        tapeLength = 0;
        faultPlace = fault == 0 ? NONE : reader.place;
    }

    public int fault() {
        return faultPlace;
    }

    public int undo() {
        if (works.length <= 0) {
            return -1;
        }
        works.pop(now);
        refusedSteps = 0;
        return works.length;
    }

    // ---- what is asked of the store as it is

    public int told(int what) throws IllegalArgumentException {
        testWhat(what, 9);
        switch (what) {
            case 0:
                return now.size;
            case 1:
                return now.unsafe;
            case 2:
                return now.waiting;
            case 3:
                return now.dirtyBlocks();
            case 4:
                return now.writes;
            case 5:
                return now.heldBack;
            case 6:
                return now.crashes;
            case 7:
                return bookLines;
            case 8:
                return refusedSteps;
            default:
                return now.made;
        }
    }

    public int peek(int block, int place, int where)
            throws IllegalArgumentException, IndexOutOfBoundsException {
        testWhere(where);
        testBlock(block);
        testPlace(place);
        return now.at(where, block, place);
    }

    public int node(int node, int what, int where)
            throws NoSuchElementException, IllegalArgumentException {
        testNode(node);
        testWhat(what, 4);
        testWhere(where);
        if (what == 4) {
            return Tree.reachedNodes(now, where) >> node & 1;
        }
        return now.nodeField(where, node, what);
    }

    public int find(int node, int name, int where)
            throws NoSuchElementException, IllegalArgumentException {
        testNode(node);
        if (name < 1 || name > NAMES) {
            refused[ILLEGAL]++;
            throw new IllegalArgumentException("no such name");
        }
        testWhere(where);
        int entry = Tree.entryNamed(now, where, node, name);
        return entry == NONE ? NONE : Tree.nodeOfEntry(now, where, entry);
    }

    public int used(int where) throws IllegalArgumentException {
        testWhere(where);
        return Tree.usedBlocks(now, where);
    }

    public int leaks(int where) throws IllegalArgumentException {
        testWhere(where);
        return Tree.leakedBlocks(now, where);
    }

    public int lost(int where) throws IllegalArgumentException {
        testWhere(where);
        return Tree.linkedNodes(now, where) & ~Tree.reachedNodes(now, where);
    }

    public int broken(int where) throws IllegalArgumentException {
        testWhere(where);
        return Tree.brokenEntries(now, where) + Tree.brokenPointers(now, where);
    }

    public int under(int node, int where) throws NoSuchElementException, IllegalArgumentException {
        testNode(node);
        testWhere(where);
        forgetKnown();
        return Tree.countUnder(now, where, node, known, 0);
    }

    public int deep(int node, int where) throws NoSuchElementException, IllegalArgumentException {
        testNode(node);
        testWhere(where);
        forgetKnown();
        return Tree.depthOf(now, where, node, known, 0);
    }

    private void forgetKnown() {
        for (int k = 0; k < NODES; k++) {
            known[k] = NONE;
        }
    }

    public int room(int node) throws NoSuchElementException {
        testNode(node);
        return Tree.freeEntries(now, MEMORY, node);
    }

    public int owner(int block, int where)
            throws IllegalArgumentException, IndexOutOfBoundsException {
        testWhere(where);
        testBlock(block);
        return Tree.ownerOf(now, where, block);
    }

    public int unlike(int block) throws IndexOutOfBoundsException {
        testBlock(block);
        int others = 0;
        for (int place = 0; place < ROW; place++) {
            if (now.at(MEMORY, block, place) != now.at(DISK, block, place)) {
                others++;
            }
        }
        return others;
    }

    // ---- what waits for what

    public int change(int k, int what)
            throws IllegalArgumentException, NullPointerException, IndexOutOfBoundsException {
        testWhat(what, 5);
        testChange(k);
        switch (what) {
            case 0:
                return now.block[k];
            case 1:
                return now.place[k];
            case 2:
                return now.was[k * ROW + now.firstPlace(k)];
            case 3:
                return now.puts[k];
            case 4:
                return now.countNeeds(k);
            default:
                pen.weigh(now, now.block[k]);
                return pen.goes[k] ? 1 : 0;
        }
    }

    public int held(int block) throws IndexOutOfBoundsException {
        testBlock(block);
        pen.weigh(now, block);
        return pen.staying;
    }

    public int copy(int block, int place) throws IndexOutOfBoundsException {
        testBlock(block);
        testPlace(place);
        pen.draft(now, block);
        return pen.sheet[place];
    }

    public int waits(int block) throws IndexOutOfBoundsException {
        testBlock(block);
        return now.blocksNeededBy(block);
    }

    public int rings() {
        int twos = 0;
        for (int block = 0; block < now.size; block++) {
            int needed = now.blocksNeededBy(block);
            for (int other = block + 1; needed != 0 && other < now.size; other++) {
                if ((needed >> other & 1) != 0 && (now.blocksNeededBy(other) >> block & 1) != 0) {
                    twos++;
                }
            }
        }
        return twos;
    }

    // ---- what would come of it

    public int settle() {
        State copy = spare[0];
        copy.copyFrom(now);
        int writes = pen.settleAll(copy);
        return writes > MOST_WRITES ? NONE : writes;
    }

    public int spill(int what) throws IllegalArgumentException {
        testWhat(what, 1);
        State copy = spare[0];
        copy.copyFrom(now);
        int most = Integer.bitCount(Tree.leakedBlocks(copy, DISK));
        int behind = 0;
        int writes = 0;
        for (int round = 0; round < ROUNDS && copy.unsafe > 0; round++) {
            for (int block = 0; block < copy.size; block++) {
                if (pen.writeBlock(copy, block)) {
                    writes++;
                    int leaked = Integer.bitCount(Tree.leakedBlocks(copy, DISK));
                    if (leaked > most) {
                        most = leaked;
                        behind = writes;
                    }
                }
            }
        }
        return what == 0 ? most : behind;
    }

    public int fewest() {
        for (int few = 0; few <= FEW; few++) {
            spare[0].copyFrom(now);
            if (safeWithin(few, 0)) {
                return few;
            }
        }
        return NONE;
    }

    /** Each block that is DIRTY takes a write of its own, so more of them than writes are hopeless. */
    private boolean safeWithin(int few, int depth) {
        State here = spare[depth];
        int dirty = here.dirtyBlocks();
        if (dirty == 0) {
            return true;
        }
        if (Integer.bitCount(dirty) > few || depth + 1 >= spare.length) {
            return false;
        }
        for (int block = 0; block < here.size; block++) {
            if ((dirty >> block & 1) != 0) {
                spare[depth + 1].copyFrom(here);
                pen.writeBlock(spare[depth + 1], block);
                if (safeWithin(few - 1, depth + 1)) {
                    return true;
                }
            }
        }
        return false;
    }

    public int finds() {
        return steps.firstFound(now);
    }

    public int sweeps() {
        State copy = spare[0];
        copy.copyFrom(now);
        copy.crash();
        int done = 0;
        for (int round = 0; round < ROUNDS; round++) {
            if (!steps.take(copy, SWEEP, 0, 0, 0)) {
                return done;
            }
            done++;
            pen.settleAll(copy);
        }
        return done;
    }

    // ---- which block was written

    public int fits() {
        return fittingBlocks();
    }

    /** Leaves in copies what a write of each DIRTY block would put on DISK. */
    private int fittingBlocks() {
        int dirty = now.dirtyBlocks();
        int fitting = 0;
        for (int block = 0; block < now.size; block++) {
            if ((dirty >> block & 1) != 0) {
                pen.draft(now, block);
                System.arraycopy(pen.sheet, 0, copies, block * ROW, ROW);
                if (fitsBook(block)) {
                    fitting |= 1 << block;
                }
            }
        }
        return fitting;
    }

    private boolean fitsBook(int block) {
        for (int place = 0; place < ROW; place++) {
            if (book[place] != NONE && book[place] != copies[block * ROW + place]) {
                return false;
            }
        }
        return true;
    }

    public int look(int what) throws IllegalArgumentException {
        testWhat(what, 1);
        int fitting = fittingBlocks();
        int best = NONE;
        int bestLeft = NONE;
        for (int place = 0; place < ROW; place++) {
            if (book[place] == NONE) {
                int left = mostAlike(fitting, place);
                if (best == NONE || left < bestLeft) {
                    best = place;
                    bestLeft = left;
                }
            }
        }
        return what == 0 ? best : bestLeft;
    }

    private int mostAlike(int fitting, int place) {
        int most = 0;
        for (int block = 0; block < now.size; block++) {
            int alike = 0;
            for (int other = block; (fitting >> block & 1) != 0 && other < now.size; other++) {
                if ((fitting >> other & 1) != 0
                        && copies[other * ROW + place] == copies[block * ROW + place]) {
                    alike++;
                }
            }
            most = Math.max(most, alike);
        }
        return most;
    }

    // ---- storms

    public int storm(int seed, int many, int q, int what) throws IllegalArgumentException {
        testRange(many, 1, 96);
        testRange(q, 0, 16);
        testWhat(what, 3);
        State copy = blow(seed, many, q);
        switch (what) {
            case 0:
                return Integer.bitCount(Tree.leakedBlocks(copy, DISK));
            case 1:
                return Tree.linkedNodes(copy, DISK);
            case 2:
                return copy.writes - now.writes;
            default:
                return Tree.brokenEntries(copy, DISK) + Tree.brokenPointers(copy, DISK);
        }
    }

    public int span(int seed, int seeds, int many, int q, int what, int node)
            throws NoSuchElementException, IllegalArgumentException {
        testNode(node);
        testRange(seeds, 1, 5);
        testRange(many, 1, 96);
        testRange(q, 0, 16);
        testWhat(what, 2);
        int fewestLeaks = BLOCKS;
        int mostLeaks = 0;
        int linked = 0;
        for (int k = 0; k < seeds; k++) {
            State copy = blow(seed + k, many, q);
            int leaked = Integer.bitCount(Tree.leakedBlocks(copy, DISK));
            fewestLeaks = Math.min(fewestLeaks, leaked);
            mostLeaks = Math.max(mostLeaks, leaked);
            linked += Tree.linkedNodes(copy, DISK) >> node & 1;
        }
        if (what == 0) {
            return fewestLeaks;
        }
        return what == 1 ? mostLeaks : linked;
    }

    private State blow(int seed, int many, int q) {
        State copy = spare[0];
        copy.copyFrom(now);
        Storm wind = new Storm(seed);
        for (int k = 0; k < many; k++) {
            wind.drawStep(copy.size);
            steps.take(copy, wind.op, wind.a, wind.b, 0);
            if (wind.drawn(16) < q) {
                copy.crash();
            }
        }
        return copy;
    }

    // ---- images and counts

    public int image() {
        if (imageCount >= IMAGES) {
            return -1;
        }
        if (images[imageCount] == null) {
            images[imageCount] = new Image();
        }
        images[imageCount].then.copyFrom(now);
        images[imageCount].works.takeOver(works);
        imageCount++;
        return imageCount;
    }

    public int restore() {
        if (imageCount <= 0 || images[imageCount - 1] == null) {
            return -1;
        }
        imageCount--;
        now.copyFrom(images[imageCount].then);
        works.takeOver(images[imageCount].works);
        refusedSteps = 0;
        return imageCount;
    }

    public int status(int what) {
        return what >= 0 && what < refused.length ? refused[what] : NONE;
    }

    public int count(int what) {
        switch (what) {
            case 0:
                return imageCount;
            case 1:
                return tapeLength;
            case 2:
                return works.length;
            default:
                return NONE;
        }
    }

    // ---- refusals

    private void testWhat(int what, int most) {
        testRange(what, 0, most);
    }

    private void testWhere(int where) {
        testRange(where, MEMORY, DISK);
    }

    private void testRange(int number, int least, int most) {
        if (number < least || number > most) {
            refused[ILLEGAL]++;
            throw new IllegalArgumentException("no such number");
        }
    }

    private void testNode(int node) {
        if (node < 0 || node >= NODES) {
            refused[NO_SUCH]++;
            throw new NoSuchElementException("no such node");
        }
    }

    private void testBlock(int block) {
        if (block < 0 || block >= now.size) {
            refused[OUTSIDE]++;
            throw new IndexOutOfBoundsException("no such block");
        }
    }

    private void testPlace(int place) {
        if (place < 0 || place >= ROW) {
            refused[OUTSIDE]++;
            throw new IndexOutOfBoundsException("no such place");
        }
    }

    private void testChange(int k) {
        if (k < 0 || k >= CHANGES) {
            refused[OUTSIDE]++;
            throw new IndexOutOfBoundsException("no such change");
        }
        if (k >= now.unsafe) {
            refused[NULL]++;
            throw new NullPointerException("not so many changes");
        }
    }

    /** All that a WORK changes; and the size, which a STORE alone sets. */
    private static final class State {
        int size;
        /** MEMORY, then DISK. */
        final byte[] bytes = new byte[2 * SIDE];

        /** The UNSAFE changes, as they were made. */
        int unsafe;
        final int[] block = new int[CHANGES];
        final int[] place = new int[CHANGES];
        final int[] puts = new int[CHANGES];
        final byte[] was = new byte[CHANGES * ROW];
        /** Where in these rows the changes stand that one needs. */
        final int[] needs = new int[CHANGES * NEEDS];
        /** A block of which all earlier changes are needed: they may be many, so they are not listed. */
        final int[] needsAll = new int[CHANGES];

        /** What is put off, and where the change stands until which it is. */
        int waiting;
        final int[] until = new int[WAITING];
        final int[] thing = new int[WAITING];

        int writes;
        int heldBack;
        int crashes;
        int made;

        State() {
            begin(BLOCKS);
        }

        void begin(int blocks) {
            size = blocks;
            for (int k = 0; k < bytes.length; k++) {
                bytes[k] = 0;
            }
            for (int k = 0; k <= ROOT_BLOCK; k++) {
                bytes[k] = 1;
            }
            bytes[ROW + LINKS] = 1;
            bytes[ROW + TAG] = DIRECTORY;
            bytes[ROW + FIRST] = ROOT_BLOCK;
            allOnDisk();
            forgetCounts();
        }

        void allOnDisk() {
            System.arraycopy(bytes, 0, bytes, SIDE, SIDE);
            unsafe = 0;
            waiting = 0;
        }

        void forgetCounts() {
            writes = 0;
            heldBack = 0;
            crashes = 0;
            made = 0;
        }

        void crash() {
            System.arraycopy(bytes, SIDE, bytes, 0, SIDE);
            unsafe = 0;
            waiting = 0;
            crashes++;
        }

        void copyFrom(State other) {
            size = other.size;
            System.arraycopy(other.bytes, 0, bytes, 0, bytes.length);
            unsafe = other.unsafe;
            System.arraycopy(other.block, 0, block, 0, unsafe);
            System.arraycopy(other.place, 0, place, 0, unsafe);
            System.arraycopy(other.puts, 0, puts, 0, unsafe);
            System.arraycopy(other.was, 0, was, 0, unsafe * ROW);
            System.arraycopy(other.needs, 0, needs, 0, unsafe * NEEDS);
            System.arraycopy(other.needsAll, 0, needsAll, 0, unsafe);
            waiting = other.waiting;
            System.arraycopy(other.until, 0, until, 0, waiting);
            System.arraycopy(other.thing, 0, thing, 0, waiting);
            writes = other.writes;
            heldBack = other.heldBack;
            crashes = other.crashes;
            made = other.made;
        }

        int at(int where, int b, int p) {
            if (where < MEMORY || where > DISK || b < 0 || b >= BLOCKS || p < 0 || p >= ROW) {
                return 0;
            }
            return bytes[where * SIDE + b * ROW + p];
        }

        /** The nodes lie one behind the other, from block 1 on. */
        int nodeField(int where, int node, int field) {
            if (where < MEMORY || where > DISK || node < 0 || node >= NODES || field < 0 || field > SECOND) {
                return 0;
            }
            return bytes[where * SIDE + ROW + node * FIELDS + field];
        }

        boolean isDirectory(int where, int node) {
            if (where < MEMORY || where > DISK || node < 0 || node >= NODES) {
                return false;
            }
            int spot = where * SIDE + ROW + node * FIELDS;
            return bytes[spot + LINKS] != 0 && bytes[spot + TAG] == DIRECTORY;
        }

        /** Where the change of a node's byte stands; NONE: it is not made. */
        int putField(int node, int field, int value) {
            return put(1 + node / NODES_OF_BLOCK, node % NODES_OF_BLOCK * FIELDS + field, value);
        }

        /** Where the change stands; NONE: it would put what is there, so it is not made. */
        int put(int b, int p, int value) {
            if (b < 0 || b >= BLOCKS || p < 0 || p > WIPE || unsafe >= CHANGES) {
                return NONE;
            }
            int from = b * ROW + (p == WIPE ? 0 : p);
            int to = b * ROW + (p == WIPE ? ROW - 1 : p);
            boolean same = true;
            for (int spot = from; spot <= to; spot++) {
                same = same && bytes[spot] == value;
            }
            if (same) {
                return NONE;
            }
            int k = unsafe;
            for (int spot = from; spot <= to; spot++) {
                was[k * ROW + spot - b * ROW] = bytes[spot];
                bytes[spot] = (byte) value;
            }
            block[k] = b;
            place[k] = p;
            puts[k] = value;
            for (int i = 0; i < NEEDS; i++) {
                needs[k * NEEDS + i] = NONE;
            }
            needsAll[k] = NONE;
            unsafe++;
            made++;
            return k;
        }

        void need(int k, int other) {
            if (k < 0 || k >= unsafe || other < 0 || other >= k) {
                return;
            }
            for (int i = k * NEEDS; i < (k + 1) * NEEDS; i++) {
                if (needs[i] == NONE) {
                    needs[i] = other;
                    return;
                }
            }
        }

        void needAllOf(int k, int b) {
            if (k >= 0 && k < unsafe) {
                needsAll[k] = b;
            }
        }

        /** A thing put off is a node to be lessened, or BLOCK_MARK and a block to be freed. */
        void putOff(int what, int change) {
            if (change != NONE && waiting < WAITING) {
                thing[waiting] = what;
                until[waiting] = change;
                waiting++;
            }
        }

        void setLinks(int node, int links) {
            int b = 1 + node / NODES_OF_BLOCK;
            int base = node % NODES_OF_BLOCK * FIELDS;
            put(b, base + LINKS, links);
            if (links != 0) {
                return;
            }
            put(b, base + TAG, 0);
            for (int field = FIRST; field <= SECOND; field++) {
                int target = nodeField(MEMORY, node, field);
                if (target != 0) {
                    putOff(BLOCK_MARK + target, put(b, base + field, 0));
                }
            }
        }

        void doPutOff(int what) {
            if (what >= BLOCK_MARK) {
                put(MAP, what - BLOCK_MARK, 0);
                return;
            }
            int links = nodeField(MEMORY, what, LINKS);
            if (links > 0) {
                setLinks(what, links - 1);
            }
        }

        int countPutOff(int what) {
            int many = 0;
            for (int k = 0; k < waiting; k++) {
                if (thing[k] == what) {
                    many++;
                }
            }
            return many;
        }

        int latestOf(int b, int p) {
            for (int k = unsafe - 1; k >= 0; k--) {
                if (block[k] == b && place[k] == p) {
                    return k;
                }
            }
            return NONE;
        }

        int dirtyBlocks() {
            int bits = 0;
            for (int k = 0; k < unsafe; k++) {
                bits |= 1 << block[k];
            }
            return bits;
        }

        int firstPlace(int k) {
            return place[k] == WIPE ? 0 : place[k];
        }

        int countNeeds(int k) {
            int many = 0;
            for (int i = k * NEEDS; i < (k + 1) * NEEDS; i++) {
                if (needs[i] != NONE) {
                    many++;
                }
            }
            for (int j = 0; needsAll[k] != NONE && j < k; j++) {
                if (block[j] == needsAll[k]) {
                    many++;
                }
            }
            return many;
        }

        /** Bits of the other blocks for which a block waits. */
        int blocksNeededBy(int b) {
            int bits = 0;
            int seen = 0;
            for (int k = 0; k < unsafe; k++) {
                if (block[k] == b) {
                    for (int i = k * NEEDS; i < (k + 1) * NEEDS; i++) {
                        bits |= needs[i] == NONE ? 0 : 1 << block[needs[i]];
                    }
                    bits |= needsAll[k] == NONE ? 0 : seen & 1 << needsAll[k];
                }
                seen |= 1 << block[k];
            }
            return bits & ~(1 << b);
        }
    }

    /** Writes blocks; its rows are used again by every write, of whichever state. */
    private static final class Pen {
        final boolean[] goes = new boolean[CHANGES];
        final int[] moved = new int[CHANGES];
        final byte[] sheet = new byte[ROW];
        final int[] due = new int[WAITING];
        int going;
        int staying;

        void weigh(State s, int block) {
            int stayingPlaces = 0;
            going = 0;
            staying = 0;
            for (int k = 0; k < s.unsafe; k++) {
                goes[k] = false;
                if (s.block[k] == block) {
                    int places = s.place[k] == WIPE ? (1 << ROW) - 1 : 1 << s.place[k];
                    if ((places & stayingPlaces) == 0 && needsGo(s, k)) {
                        goes[k] = true;
                        going++;
                    } else {
                        stayingPlaces |= places;
                        staying++;
                    }
                }
            }
        }

        /** Of other blocks nothing goes, so what is needed of them and UNSAFE holds back by itself. */
        private boolean needsGo(State s, int k) {
            for (int i = k * NEEDS; i < (k + 1) * NEEDS; i++) {
                int needed = s.needs[i];
                if (needed != NONE && !goes[needed]) {
                    return false;
                }
            }
            for (int j = 0; s.needsAll[k] != NONE && j < k; j++) {
                if (s.block[j] == s.needsAll[k] && !goes[j]) {
                    return false;
                }
            }
            return true;
        }

        void draft(State s, int block) {
            weigh(s, block);
            System.arraycopy(s.bytes, block * ROW, sheet, 0, ROW);
            for (int k = s.unsafe - 1; staying > 0 && k >= 0; k--) {
                if (s.block[k] == block && !goes[k]) {
                    int first = s.firstPlace(k);
                    int length = s.place[k] == WIPE ? ROW : 1;
                    System.arraycopy(s.was, k * ROW + first, sheet, first, length);
                }
            }
        }

        /** False: it is refused, for there is no such block, or it is not DIRTY. */
        boolean writeBlock(State s, int block) {
            if (block < 0 || block >= s.size || s.unsafe == 0) {
                return false;
            }
            draft(s, block);
            if (going + staying == 0) {
                return false;
            }
            System.arraycopy(sheet, 0, s.bytes, SIDE + block * ROW, ROW);
            s.writes++;
            s.heldBack += staying;
            if (going > 0) {
                closeRanks(s);
                int ready = takeDue(s);
                for (int k = 0; k < ready; k++) {
                    s.doPutOff(due[k]);
                }
            }
            return true;
        }

        private void closeRanks(State s) {
            int kept = 0;
            for (int k = 0; k < s.unsafe; k++) {
                if (goes[k]) {
                    moved[k] = NONE;
                } else {
                    moveChange(s, k, kept);
                    moved[k] = kept;
                    kept++;
                }
            }
            s.unsafe = kept;
        }

        /** What a change needs stands ahead of it, so it has moved already. */
        private void moveChange(State s, int from, int to) {
            s.block[to] = s.block[from];
            s.place[to] = s.place[from];
            s.puts[to] = s.puts[from];
            s.needsAll[to] = s.needsAll[from];
            for (int i = 0; i < NEEDS; i++) {
                int needed = s.needs[from * NEEDS + i];
                s.needs[to * NEEDS + i] = needed == NONE ? NONE : moved[needed];
            }
            if (from != to) {
                System.arraycopy(s.was, from * ROW, s.was, to * ROW, ROW);
            }
        }

        private int takeDue(State s) {
            int ready = 0;
            int kept = 0;
            for (int k = 0; k < s.waiting; k++) {
                int change = moved[s.until[k]];
                if (change == NONE) {
                    due[ready] = s.thing[k];
                    ready++;
                } else {
                    s.thing[kept] = s.thing[k];
                    s.until[kept] = change;
                    kept++;
                }
            }
            s.waiting = kept;
            return ready;
        }

        int syncAll(State s) {
            int writes = 0;
            for (int block = 0; block < s.size; block++) {
                if (writeBlock(s, block)) {
                    writes++;
                }
            }
            return writes;
        }

        int settleAll(State s) {
            int writes = 0;
            for (int round = 0; round < ROUNDS && s.unsafe > 0; round++) {
                writes += syncAll(s);
            }
            return writes;
        }
    }

    /** The STEPS; each tells whether it was done, and changes nothing if not. */
    private static final class Steps {
        private final Pen pen = new Pen();

        boolean take(State s, int op, int a, int b, int c) {
            if (op <= SWEEP && (s.unsafe >= FULL_CHANGES || s.waiting >= FULL_WAITING)) {
                return false;
            }
            switch (op) {
                case MAKE:
                    return makeFile(s, a, b);
                case DIR:
                    return makeDirectory(s, a, b);
                case LINK:
                    return linkFile(s, a, b, c);
                case GROW:
                    return growNode(s, a, b);
                case PUT:
                    return putInFile(s, a, b, c);
                case CUT:
                    return cutFile(s, a);
                case DROP:
                    return dropEntry(s, a, b);
                case SWEEP:
                    return sweepOne(s);
                case WRITE:
                    return pen.writeBlock(s, a);
                case SYNC:
                    return pen.syncAll(s) > 0;
                case CRASH:
                    s.crash();
                    return true;
                default:
                    return false;
            }
        }

        private boolean makeFile(State s, int directory, int name) {
            int entry = entryFor(s, directory, name);
            int node = freeNode(s);
            if (entry == NONE || node == NONE) {
                return false;
            }
            int links = s.putField(node, LINKS, 1);
            int tag = s.putField(node, TAG, FILE);
            int named = nameEntry(s, entry, node, name);
            s.need(named, links);
            s.need(named, tag);
            return true;
        }

        private boolean makeDirectory(State s, int directory, int name) {
            int entry = entryFor(s, directory, name);
            int node = freeNode(s);
            int block = freeBlock(s);
            if (entry == NONE || node == NONE || block == NONE) {
                return false;
            }
            int links = s.putField(node, LINKS, 1);
            int tag = s.putField(node, TAG, DIRECTORY);
            int first = giveBlock(s, node, FIRST, block, 0);
            int named = nameEntry(s, entry, node, name);
            s.need(named, links);
            s.need(named, tag);
            s.need(named, first);
            return true;
        }

        private boolean linkFile(State s, int directory, int name, int node) {
            int entry = entryFor(s, directory, name);
            int links = s.nodeField(MEMORY, node, LINKS);
            if (entry == NONE || !isFile(s, node) || links > 8) {
                return false;
            }
            int more = s.putField(node, LINKS, links + 1);
            s.need(nameEntry(s, entry, node, name), more);
            return true;
        }

        /** The free entry that a new name takes; NONE: there may be no such name. */
        private int entryFor(State s, int directory, int name) {
            if (Tree.entryNamed(s, MEMORY, directory, name) != NONE
                    || (Tree.reachedNodes(s, MEMORY) >> directory & 1) == 0) {
                return NONE;
            }
            return Tree.entryNamed(s, MEMORY, directory, FREE_NAME);
        }

        private int nameEntry(State s, int entry, int node, int name) {
            int block = entry / ENTRIES;
            int place = entry % ENTRIES * 2;
            int before = s.latestOf(block, place);
            int changed = s.put(block, place + 1, node);
            s.need(changed, before);
            int named = s.put(block, place, name);
            s.need(named, changed);
            return named;
        }

        private int giveBlock(State s, int node, int field, int block, int value) {
            int mapped = s.put(MAP, block, 1);
            int wiped = s.put(block, WIPE, value);
            int pointed = s.putField(node, field, block);
            s.need(pointed, mapped);
            if (wiped == NONE) {
                s.needAllOf(pointed, block);
            } else {
                s.need(pointed, wiped);
            }
            return pointed;
        }

        private boolean growNode(State s, int node, int value) {
            int block = freeBlock(s);
            int first = s.nodeField(MEMORY, node, FIRST);
            int second = s.nodeField(MEMORY, node, SECOND);
            if (block == NONE || s.nodeField(MEMORY, node, LINKS) == 0 || first != 0 && second != 0) {
                return false;
            }
            int filled = s.nodeField(MEMORY, node, TAG) == DIRECTORY ? 0 : value;
            giveBlock(s, node, first == 0 ? FIRST : SECOND, block, filled);
            return true;
        }

        private boolean putInFile(State s, int node, int place, int value) {
            if (!isFile(s, node)) {
                return false;
            }
            int block = s.nodeField(MEMORY, node, place < ROW ? FIRST : SECOND);
            return block != 0 && s.put(block, place % ROW, value) != NONE;
        }

        private boolean cutFile(State s, int node) {
            if (!isFile(s, node)) {
                return false;
            }
            int field = s.nodeField(MEMORY, node, SECOND) != 0 ? SECOND : FIRST;
            int block = s.nodeField(MEMORY, node, field);
            if (block == 0) {
                return false;
            }
            s.putOff(BLOCK_MARK + block, s.putField(node, field, 0));
            return true;
        }

        private boolean dropEntry(State s, int directory, int name) {
            int entry = Tree.entryNamed(s, MEMORY, directory, name);
            if (entry == NONE || (Tree.reachedNodes(s, MEMORY) >> directory & 1) == 0) {
                return false;
            }
            int node = Tree.nodeOfEntry(s, MEMORY, entry);
            if (Tree.namedNodes(s, MEMORY, node) != 0) {
                return false;
            }
            s.putOff(node, s.put(entry / ENTRIES, entry % ENTRIES * 2, FREE_NAME));
            return true;
        }

        private boolean sweepOne(State s) {
            int found = firstFound(s);
            if (found == NONE) {
                return false;
            }
            if (found >= BLOCK_MARK) {
                s.put(MAP, found - BLOCK_MARK, 0);
            } else {
                s.setLinks(found, linksDue(s, Tree.reachedNodes(s, MEMORY), found));
            }
            return true;
        }

        /** A node, or BLOCK_MARK and a block; NONE: there is nothing to mend. */
        int firstFound(State s) {
            int reached = Tree.reachedNodes(s, MEMORY);
            for (int node = 1; node < NODES; node++) {
                int links = s.nodeField(MEMORY, node, LINKS);
                if (links > 0 && links > linksDue(s, reached, node)) {
                    return node;
                }
            }
            int pointed = Tree.pointedBlocks(s, MEMORY, Tree.linkedNodes(s, MEMORY));
            for (int block = ROOT_BLOCK; block < s.size; block++) {
                if (s.at(MEMORY, MAP, block) != 0 && (pointed >> block & 1) == 0
                        && s.countPutOff(BLOCK_MARK + block) == 0) {
                    return BLOCK_MARK + block;
                }
            }
            return NONE;
        }

        private int linksDue(State s, int reached, int node) {
            int due = s.countPutOff(node);
            for (int directory = 0; directory < NODES; directory++) {
                if ((reached >> directory & 1) != 0) {
                    due += Tree.timesNamed(s, MEMORY, directory, node);
                }
            }
            return due;
        }

        private boolean isFile(State s, int node) {
            return s.nodeField(MEMORY, node, LINKS) != 0 && s.nodeField(MEMORY, node, TAG) == FILE;
        }

        private int freeNode(State s) {
            for (int node = 0; node < NODES; node++) {
                if (s.nodeField(MEMORY, node, LINKS) == 0 && s.nodeField(MEMORY, node, TAG) == 0) {
                    return node;
                }
            }
            return NONE;
        }

        private int freeBlock(State s) {
            for (int block = ROOT_BLOCK; block < s.size; block++) {
                if (s.at(MEMORY, MAP, block) == 0) {
                    return block;
                }
            }
            return NONE;
        }
    }

    /** Questions of one side of a state: who names whom, and who points where. */
    private static final class Tree {
        /** An entry's number is that of its block times 8, and its own. */
        static int entryNamed(State s, int where, int directory, int name) {
            if (!s.isDirectory(where, directory)) {
                return NONE;
            }
            for (int field = FIRST; field <= SECOND; field++) {
                int block = s.nodeField(where, directory, field);
                for (int j = 0; block != 0 && j < ENTRIES; j++) {
                    if (s.at(where, block, 2 * j) == name) {
                        return block * ENTRIES + j;
                    }
                }
            }
            return NONE;
        }

        static int nodeOfEntry(State s, int where, int entry) {
            return s.at(where, entry / ENTRIES, entry % ENTRIES * 2 + 1);
        }

        static int freeEntries(State s, int where, int directory) {
            int free = 0;
            for (int field = FIRST; s.isDirectory(where, directory) && field <= SECOND; field++) {
                int block = s.nodeField(where, directory, field);
                for (int j = 0; block != 0 && j < ENTRIES; j++) {
                    if (s.at(where, block, 2 * j) == 0) {
                        free++;
                    }
                }
            }
            return free;
        }

        static int timesNamed(State s, int where, int directory, int node) {
            int times = 0;
            for (int field = FIRST; s.isDirectory(where, directory) && field <= SECOND; field++) {
                int block = s.nodeField(where, directory, field);
                for (int j = 0; block != 0 && j < ENTRIES; j++) {
                    if (s.at(where, block, 2 * j) != 0 && s.at(where, block, 2 * j + 1) == node) {
                        times++;
                    }
                }
            }
            return times;
        }

        /** Bits of the nodes that a directory's entries name; none, if it is no directory. */
        static int namedNodes(State s, int where, int directory) {
            int bits = 0;
            for (int field = FIRST; s.isDirectory(where, directory) && field <= SECOND; field++) {
                int block = s.nodeField(where, directory, field);
                for (int j = 0; block != 0 && j < ENTRIES; j++) {
                    if (s.at(where, block, 2 * j) != 0) {
                        bits |= 1 << s.at(where, block, 2 * j + 1);
                    }
                }
            }
            return bits;
        }

        static int reachedNodes(State s, int where) {
            int reached = 1;
            int open = 1;
            for (int k = 0; k < NODES && open != 0; k++) {
                int node = Integer.numberOfTrailingZeros(open);
                int more = namedNodes(s, where, node) & ~reached;
                reached |= more;
                open = open & open - 1 | more;
            }
            return reached;
        }

        static int linkedNodes(State s, int where) {
            int bits = 0;
            for (int node = 0; node < NODES; node++) {
                if (s.nodeField(where, node, LINKS) != 0) {
                    bits |= 1 << node;
                }
            }
            return bits;
        }

        static int usedBlocks(State s, int where) {
            int bits = 0;
            for (int block = 0; block < s.size; block++) {
                if (s.at(where, MAP, block) != 0) {
                    bits |= 1 << block;
                }
            }
            return bits;
        }

        static int pointedBlocks(State s, int where, int nodes) {
            int bits = 0;
            for (int node = 0; node < NODES; node++) {
                if ((nodes >> node & 1) != 0) {
                    bits |= 1 << s.nodeField(where, node, FIRST);
                    bits |= 1 << s.nodeField(where, node, SECOND);
                }
            }
            return bits;
        }

        static int leakedBlocks(State s, int where) {
            int pointed = pointedBlocks(s, where, reachedNodes(s, where));
            return usedBlocks(s, where) & ~pointed & -1 << ROOT_BLOCK;
        }

        static int brokenEntries(State s, int where) {
            int reached = reachedNodes(s, where);
            int broken = 0;
            for (int node = 0; node < NODES; node++) {
                boolean whole = s.nodeField(where, node, LINKS) != 0 && s.nodeField(where, node, TAG) != 0;
                for (int directory = 0; !whole && directory < NODES; directory++) {
                    if ((reached >> directory & 1) != 0) {
                        broken += timesNamed(s, where, directory, node);
                    }
                }
            }
            return broken;
        }

        static int brokenPointers(State s, int where) {
            int used = usedBlocks(s, where);
            int linked = linkedNodes(s, where);
            int ahead = 0;
            int broken = 0;
            for (int k = 0; k < 2 * NODES; k++) {
                int block = (linked >> k / 2 & 1) == 0 ? 0 : s.nodeField(where, k / 2, FIRST + k % 2);
                if (block != 0) {
                    if ((used >> block & 1) == 0 || (ahead >> block & 1) != 0) {
                        broken++;
                    }
                    ahead |= 1 << block;
                }
            }
            return broken;
        }

        static int ownerOf(State s, int where, int block) {
            for (int node = 0; block != 0 && node < NODES; node++) {
                if (s.nodeField(where, node, LINKS) != 0
                        && (s.nodeField(where, node, FIRST) == block
                        || s.nodeField(where, node, SECOND) == block)) {
                    return node;
                }
            }
            return NONE;
        }

        /**
         * A directory is younger than the one that holds it, so a path is no longer than NODES. But one
         * that is lost may name another many times, that one a third, and so on: each is walked once.
         */
        static int countUnder(State s, int where, int directory, int[] known, int depth) {
            if (directory < 0 || directory >= known.length || depth >= NODES) {
                return 0;
            }
            if (known[directory] != NONE) {
                return known[directory];
            }
            int many = 0;
            for (int k = 0; k < 2 * ENTRIES; k++) {
                int node = namedAt(s, where, directory, k);
                if (node != NONE) {
                    many += 1 + countUnder(s, where, node, known, depth + 1);
                }
            }
            known[directory] = many;
            return many;
        }

        static int depthOf(State s, int where, int directory, int[] known, int depth) {
            if (!s.isDirectory(where, directory) || directory >= known.length || depth >= NODES) {
                return 0;
            }
            if (known[directory] != NONE) {
                return known[directory];
            }
            int deepest = 0;
            for (int k = 0; k < 2 * ENTRIES; k++) {
                int node = namedAt(s, where, directory, k);
                if (node != NONE) {
                    deepest = Math.max(deepest, depthOf(s, where, node, known, depth + 1));
                }
            }
            known[directory] = 1 + deepest;
            return 1 + deepest;
        }

        /** The node of the k-th entry; NONE: it has no name, or there is no such entry. */
        private static int namedAt(State s, int where, int directory, int k) {
            if (!s.isDirectory(where, directory)) {
                return NONE;
            }
            int block = s.nodeField(where, directory, k < ENTRIES ? FIRST : SECOND);
            int place = k % ENTRIES * 2;
            return block == 0 || s.at(where, block, place) == 0 ? NONE : s.at(where, block, place + 1);
        }
    }

    /** Steps drawn by a seed. */
    private static final class Storm {
        private int seed;
        int op;
        int a;
        int b;

        Storm(int seed) {
            this.seed = seed;
        }

        int drawn(int by) {
            seed = seed * 1103515245 + 12345;
            return by <= 0 ? 0 : (seed >>> 16 & 0x7fff) % by;
        }

        void drawStep(int blocks) {
            int kind = drawn(8);
            b = 0;
            if (kind <= 2) {
                op = kind == 2 ? DROP : MAKE;
                a = 0;
                b = 1 + drawn(9);
            } else if (kind == 3) {
                op = GROW;
                a = drawn(NODES);
                b = drawn(VALUES + 1);
            } else if (kind == 4) {
                op = CUT;
                a = drawn(NODES);
            } else {
                op = WRITE;
                a = drawn(blocks);
            }
        }
    }

    /** The steps of a text that was read without a fault. */
    private static final class Script {
        int size;
        int length;
        final int[] op = new int[SCRIPT];
        final int[] a = new int[SCRIPT];
        final int[] b = new int[SCRIPT];
        final int[] c = new int[SCRIPT];
        private final int[] left = new int[SCRIPT];
        /** Of an again where its end stands, and the other way round. */
        private final int[] mate = new int[SCRIPT];

        void clear() {
            size = BLOCKS;
            length = 0;
        }

        void add(int word, int first, int second, int third) {
            if (length < SCRIPT) {
                op[length] = word;
                a[length] = first;
                b[length] = second;
                c[length] = third;
                length++;
            }
        }

        void addEnd(int again) {
            if (length < SCRIPT && again >= 0 && again < length) {
                mate[again] = length;
                mate[length] = again;
                add(END, 0, 0, 0);
            }
        }

        int afterAgain(int again) {
            left[again] = a[again];
            return left[again] == 0 ? mate[again] + 1 : again + 1;
        }

        int afterEnd(int end) {
            int again = mate[end];
            left[again]--;
            return left[again] > 0 ? again + 1 : end + 1;
        }
    }

    /** Reads texts; the first fault ends the reading. */
    private static final class Reader {
        final Script script = new Script();
        final int[] lines = new int[ROW];
        int lineCount;
        int place;
        private int fault;
        private final byte[] text = new byte[TAPE];
        private int length;
        private int next;
        private final int[] open = new int[AGAINS];
        private int opened;

        private void begin(byte[] bytes, int n) {
            length = Math.max(0, Math.min(n, Math.min(bytes.length, TAPE)));
            System.arraycopy(bytes, 0, text, 0, length);
            next = 0;
            fault = 0;
            place = NONE;
            opened = 0;
            script.clear();
        }

        int readStore(byte[] bytes, int n) {
            begin(bytes, n);
            int clauses = 0;
            while (fault == 0 && !atEnd() && clauses <= CLAUSES) {
                int start = next;
                int word = readWord();
                if (word > PUT && word != SIZE) {
                    blame(CANNOT_STAND, start);
                } else if (clauses == CLAUSES) {
                    blame(TOO_MANY, start);
                }
                readNumbers(word);
                readSign(';');
                clauses++;
            }
            return fault;
        }

        int readWork(byte[] bytes, int n) {
            begin(bytes, n);
            for (int k = 0; k <= length && fault == 0 && !atEnd(); k++) {
                if (opened > 0 && text[next] == ']') {
                    next++;
                    opened--;
                    script.addEnd(open[opened]);
                    readSign(';');
                } else {
                    readStep();
                }
            }
            if (opened > 0) {
                blame(CANNOT_STAND, length);
            }
            return fault;
        }

        private void readStep() {
            int start = next;
            int word = readWord();
            if (word == SIZE) {
                blame(CANNOT_STAND, start);
            } else if (word == AGAIN && opened >= AGAINS) {
                blame(TOO_MANY, start);
            }
            readNumbers(word);
            if (word == AGAIN) {
                readSign('[');
                if (fault == 0) {
                    open[opened] = script.length - 1;
                    opened++;
                }
            } else {
                readSign(';');
            }
        }

        int readBook(byte[] bytes, int n) {
            begin(bytes, n);
            lineCount = 0;
            for (int k = 0; k < ROW; k++) {
                lines[k] = NONE;
            }
            for (int k = 0; k <= length && fault == 0 && !atEnd(); k++) {
                int start = next;
                int at = readNumber(0, ROW - 1);
                if (lines[at] != NONE) {
                    blame(NO_SUCH_NUMBER, start);
                }
                int value = readNumber(0, VALUES);
                readSign(';');
                if (fault == 0) {
                    lines[at] = value;
                    lineCount++;
                }
            }
            return fault;
        }

        private void blame(int kind, int where) {
            if (fault == 0) {
                fault = kind;
                place = where;
            }
        }

        /** Behind the blanks; so what is read next is at its first byte. */
        private boolean atEnd() {
            while (next < length && text[next] == ' ') {
                next++;
            }
            return next >= length;
        }

        private void readSign(char sign) {
            if (fault != 0) {
                return;
            }
            if (atEnd() || text[next] != sign) {
                blame(CANNOT_STAND, next);
            } else {
                next++;
            }
        }

        private int readNumber(int least, int most) {
            if (fault != 0) {
                return least;
            }
            if (atEnd() || !isDigit(text[next])) {
                blame(CANNOT_STAND, next);
                return least;
            }
            int start = next;
            int number = 0;
            while (next < length && isDigit(text[next])) {
                // Above all limits it stays there, however many digits stand.
                number = Math.min(1000, number * 10 + text[next] - '0');
                next++;
            }
            if (number < least || number > most) {
                blame(NO_SUCH_NUMBER, start);
                return least;
            }
            return number;
        }

        private boolean isDigit(int sign) {
            return sign >= '0' && sign <= '9';
        }

        private int readWord() {
            int start = next;
            while (next < length && text[next] >= 'a' && text[next] <= 'z') {
                next++;
            }
            for (int word = MAKE; word <= SIZE; word++) {
                if (isSpelled(word, start)) {
                    return word;
                }
            }
            blame(CANNOT_STAND, start);
            return NONE;
        }

        private boolean isSpelled(int word, int start) {
            if (next - start > WORD) {
                return false;
            }
            for (int k = 0; k < WORD; k++) {
                int sign = start + k < next ? text[start + k] : ' ';
                if (WORDS.charAt(word * WORD + k) != sign) {
                    return false;
                }
            }
            return true;
        }

        private void readNumbers(int word) {
            int a = 0;
            int b = 0;
            int c = 0;
            if (word >= MAKE && word <= DROP) {
                a = readNumber(0, NODES - 1);
            }
            switch (word) {
                case MAKE:
                case DIR:
                case DROP:
                    b = readNumber(1, NAMES);
                    break;
                case LINK:
                    b = readNumber(1, NAMES);
                    c = readNumber(0, NODES - 1);
                    break;
                case GROW:
                    b = readNumber(0, VALUES);
                    break;
                case PUT:
                    b = readNumber(0, 2 * ROW - 1);
                    c = readNumber(0, VALUES);
                    break;
                case WRITE:
                    a = readNumber(0, BLOCKS - 1);
                    break;
                case AGAIN:
                    a = readNumber(0, 60);
                    break;
                case SIZE:
                    a = readNumber(LEAST_BLOCKS, BLOCKS);
                    script.size = a;
                    return;
                default:
                    break;
            }
            script.add(word, a, b, c);
        }
    }

    /** States ahead of the works that can be undone. */
    private static final class History {
        private final State[] rows = new State[WORKS];
        int length;

        void push(State s) {
            if (length < WORKS) {
                keep(length, s);
                length++;
            }
        }

        void pop(State into) {
            if (length > 0 && rows[length - 1] != null) {
                length--;
                into.copyFrom(rows[length]);
            }
        }

        void takeOver(History other) {
            for (int k = 0; k < other.length; k++) {
                if (other.rows[k] != null) {
                    keep(k, other.rows[k]);
                }
            }
            length = other.length;
        }

        private void keep(int k, State s) {
            if (rows[k] == null) {
                rows[k] = new State();
            }
            rows[k].copyFrom(s);
        }
    }

    private static final class Image {
        final State then = new State();
        final History works = new History();
    }
}
