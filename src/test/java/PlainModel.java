import java.util.ArrayDeque;
import java.util.ArrayList;
import java.util.Collections;
import java.util.Deque;
import java.util.HashSet;
import java.util.IdentityHashMap;
import java.util.LinkedHashSet;
import java.util.List;
import java.util.NoSuchElementException;
import java.util.Set;

/**
 * The document once more, with lists and sets and no thought of speed or room, so that RolledBack can
 * be held against it. It shares no code with it.
 */
public final class PlainModel {
    static final class Change {
        final int block;
        final int place;
        final int puts;
        final int[] was;
        final Set<Change> needs = Collections.newSetFromMap(new IdentityHashMap<>());

        Change(int block, int place, int puts, int[] was) {
            this.block = block;
            this.place = place;
            this.puts = puts;
            this.was = was;
        }

        boolean meets(Change other) {
            return block == other.block && (place == 16 || other.place == 16 || place == other.place);
        }
    }

    record PutOff(Change until, boolean frees, int what) { }

    record Entry(int block, int j, int name, int node) { }

    static final class Fault extends RuntimeException {
        private static final long serialVersionUID = 1L;
        final int kind;
        final int place;

        Fault(int kind, int place) {
            this.kind = kind;
            this.place = place;
        }
    }

    record Step(String word, int[] numbers, List<Step> body) { }

    static final class World {
        int size = 16;
        int[][][] side = new int[2][16][16];
        List<Change> unsafe = new ArrayList<>();
        List<PutOff> off = new ArrayList<>();
        int writes;
        int held;
        int crashes;
        int made;

        static World first(int size) {
            World w = new World();
            w.size = size;
            for (int s = 0; s < 2; s++) {
                for (int b = 0; b <= 4; b++) {
                    w.side[s][0][b] = 1;
                }
                w.side[s][1][0] = 1;
                w.side[s][1][1] = 2;
                w.side[s][1][2] = 4;
            }
            return w;
        }

        World twin() {
            World w = new World();
            w.size = size;
            for (int s = 0; s < 2; s++) {
                for (int b = 0; b < 16; b++) {
                    w.side[s][b] = side[s][b].clone();
                }
            }
            w.unsafe = new ArrayList<>(unsafe);
            w.off = new ArrayList<>(off);
            w.writes = writes;
            w.held = held;
            w.crashes = crashes;
            w.made = made;
            return w;
        }

        int links(int s, int n) {
            return side[s][1 + n / 4][4 * (n % 4)];
        }

        int tag(int s, int n) {
            return side[s][1 + n / 4][4 * (n % 4) + 1];
        }

        int first(int s, int n) {
            return side[s][1 + n / 4][4 * (n % 4) + 2];
        }

        int second(int s, int n) {
            return side[s][1 + n / 4][4 * (n % 4) + 3];
        }

        boolean directory(int s, int n) {
            return links(s, n) > 0 && tag(s, n) == 2;
        }

        boolean file(int s, int n) {
            return links(s, n) > 0 && tag(s, n) == 1;
        }

        List<Entry> entries(int s, int n) {
            List<Entry> all = new ArrayList<>();
            if (directory(s, n)) {
                for (int b : new int[] {first(s, n), second(s, n)}) {
                    for (int j = 0; b != 0 && j < 8; j++) {
                        all.add(new Entry(b, j, side[s][b][2 * j], side[s][b][2 * j + 1]));
                    }
                }
            }
            return all;
        }

        List<Entry> named(int s, int n) {
            List<Entry> some = new ArrayList<>(entries(s, n));
            some.removeIf(e -> e.name() == 0);
            return some;
        }

        Set<Integer> reached(int s) {
            Set<Integer> all = new HashSet<>();
            Deque<Integer> todo = new ArrayDeque<>();
            todo.add(0);
            while (!todo.isEmpty()) {
                int n = todo.poll();
                if (all.add(n)) {
                    for (Entry e : named(s, n)) {
                        todo.add(e.node());
                    }
                }
            }
            return all;
        }

        Set<Integer> dirty() {
            Set<Integer> all = new LinkedHashSet<>();
            for (int b = 0; b < 16; b++) {
                for (Change c : unsafe) {
                    if (c.block == b) {
                        all.add(b);
                    }
                }
            }
            return all;
        }

        Change put(int block, int place, int value, Change... needed) {
            if (side[0][block][place] == value) {
                return null;
            }
            int[] was = {side[0][block][place]};
            side[0][block][place] = value;
            return add(new Change(block, place, value, was), needed);
        }

        Change wipe(int block, int value) {
            boolean all = true;
            for (int v : side[0][block]) {
                all &= v == value;
            }
            if (all) {
                return null;
            }
            int[] was = side[0][block].clone();
            java.util.Arrays.fill(side[0][block], value);
            return add(new Change(block, 16, value, was));
        }

        private Change add(Change c, Change... needed) {
            for (Change n : needed) {
                if (n != null && unsafe.contains(n)) {
                    c.needs.add(n);
                }
            }
            unsafe.add(c);
            made++;
            return c;
        }

        Change putNode(int n, int field, int value, Change... needed) {
            return put(1 + n / 4, 4 * (n % 4) + field, value, needed);
        }

        List<Change> going(int block) {
            List<Change> go = new ArrayList<>();
            List<Change> seen = new ArrayList<>();
            for (Change c : unsafe) {
                if (c.block == block) {
                    boolean ok = true;
                    for (Change n : c.needs) {
                        ok &= !unsafe.contains(n) || n.block == block && go.contains(n);
                    }
                    for (Change e : seen) {
                        ok &= !e.meets(c) || go.contains(e);
                    }
                    if (ok) {
                        go.add(c);
                    }
                    seen.add(c);
                }
            }
            return go;
        }

        List<Change> of(int block) {
            List<Change> mine = new ArrayList<>(unsafe);
            mine.removeIf(c -> c.block != block);
            return mine;
        }

        int[] copyOf(int block) {
            int[] row = side[0][block].clone();
            List<Change> back = of(block);
            back.removeAll(going(block));
            Collections.reverse(back);
            for (Change c : back) {
                if (c.place == 16) {
                    row = c.was.clone();
                } else {
                    row[c.place] = c.was[0];
                }
            }
            return row;
        }

        boolean write(int block) {
            if (block >= size || of(block).isEmpty()) {
                return false;
            }
            List<Change> go = going(block);
            held += of(block).size() - go.size();
            writes++;
            side[1][block] = copyOf(block);
            unsafe.removeAll(go);
            List<PutOff> ready = new ArrayList<>(off);
            ready.removeIf(p -> !go.contains(p.until()));
            off.removeIf(p -> go.contains(p.until()));
            for (PutOff p : ready) {
                if (p.frees()) {
                    put(0, p.what(), 0);
                } else if (links(0, p.what()) > 0) {
                    relink(p.what(), links(0, p.what()) - 1);
                }
            }
            return true;
        }

        void relink(int n, int links) {
            putNode(n, 0, links);
            if (links == 0) {
                putNode(n, 1, 0);
                for (int field = 2; field < 4; field++) {
                    int b = side[0][1 + n / 4][4 * (n % 4) + field];
                    if (b != 0) {
                        off.add(new PutOff(putNode(n, field, 0), true, b));
                    }
                }
            }
        }

        int sync() {
            int many = 0;
            for (int b = 0; b < size; b++) {
                if (write(b)) {
                    many++;
                }
            }
            return many;
        }

        int settle() {
            int many = 0;
            while (!unsafe.isEmpty()) {
                many += sync();
            }
            return many;
        }

        void crash() {
            for (int b = 0; b < 16; b++) {
                side[0][b] = side[1][b].clone();
            }
            unsafe.clear();
            off.clear();
            crashes++;
        }

        int freeBlock() {
            for (int b = 4; b < size; b++) {
                if (side[0][0][b] == 0) {
                    return b;
                }
            }
            return -1;
        }

        int freeNode() {
            for (int n = 0; n < 12; n++) {
                if (links(0, n) == 0 && tag(0, n) == 0) {
                    return n;
                }
            }
            return -1;
        }

        Entry entryFor(int d, int name) {
            if (!directory(0, d) || !reached(0).contains(d)) {
                return null;
            }
            Entry free = null;
            for (Entry e : entries(0, d)) {
                if (e.name() == name) {
                    return null;
                }
                if (e.name() == 0 && free == null) {
                    free = e;
                }
            }
            return free;
        }

        boolean step(String word, int... x) {
            switch (word) {
                case "write":
                    return write(x[0]);
                case "sync":
                    return sync() > 0;
                case "crash":
                    crash();
                    return true;
                default:
                    break;
            }
            if (unsafe.size() >= 60 || off.size() >= 30) {
                return false;
            }
            switch (word) {
                case "make":
                    return make(x[0], x[1], false);
                case "dir":
                    return make(x[0], x[1], true);
                case "link":
                    return link(x[0], x[1], x[2]);
                case "grow":
                    return grow(x[0], x[1]);
                case "put":
                    return putByte(x[0], x[1], x[2]);
                case "cut":
                    return cut(x[0]);
                case "drop":
                    return drop(x[0], x[1]);
                case "sweep":
                    return sweep();
                default:
                    throw new AssertionError(word);
            }
        }

        Change[] nodeOf(Entry e, int n) {
            Change latest = null;
            for (Change c : unsafe) {
                if (c.block == e.block() && c.place == 2 * e.j()) {
                    latest = c;
                }
            }
            return new Change[] {put(e.block(), 2 * e.j() + 1, n, latest)};
        }

        boolean make(int d, int name, boolean directory) {
            Entry e = entryFor(d, name);
            int n = freeNode();
            int b = directory ? freeBlock() : 0;
            if (e == null || n < 0 || b < 0) {
                return false;
            }
            Change links = putNode(n, 0, 1);
            Change tag = putNode(n, 1, directory ? 2 : 1);
            Change first = directory ? give(n, 2, b, 0) : null;
            Change node = nodeOf(e, n)[0];
            put(e.block(), 2 * e.j(), name, links, tag, node, first);
            return true;
        }

        Change give(int n, int field, int b, int value) {
            List<Change> needed = new ArrayList<>();
            List<Change> before = of(b);
            needed.add(put(0, b, 1));
            Change wipe = wipe(b, value);
            if (wipe == null) {
                needed.addAll(before);
            } else {
                needed.add(wipe);
            }
            return putNode(n, field, b, needed.toArray(new Change[0]));
        }

        boolean link(int d, int name, int m) {
            Entry e = entryFor(d, name);
            if (e == null || !file(0, m) || links(0, m) > 8) {
                return false;
            }
            Change links = putNode(m, 0, links(0, m) + 1);
            Change node = nodeOf(e, m)[0];
            put(e.block(), 2 * e.j(), name, links, node);
            return true;
        }

        boolean grow(int m, int v) {
            int b = freeBlock();
            if (links(0, m) == 0 || first(0, m) != 0 && second(0, m) != 0 || b < 0) {
                return false;
            }
            give(m, first(0, m) == 0 ? 2 : 3, b, directory(0, m) ? 0 : v);
            return true;
        }

        boolean putByte(int m, int i, int v) {
            if (!file(0, m)) {
                return false;
            }
            int b = i < 16 ? first(0, m) : second(0, m);
            return b != 0 && put(b, i % 16, v) != null;
        }

        boolean cut(int m) {
            if (!file(0, m) || first(0, m) == 0 && second(0, m) == 0) {
                return false;
            }
            int field = second(0, m) != 0 ? 3 : 2;
            int b = field == 3 ? second(0, m) : first(0, m);
            off.add(new PutOff(putNode(m, field, 0), true, b));
            return true;
        }

        boolean drop(int d, int name) {
            if (!directory(0, d) || !reached(0).contains(d)) {
                return false;
            }
            for (Entry e : named(0, d)) {
                if (e.name() == name) {
                    if (!named(0, e.node()).isEmpty()) {
                        return false;
                    }
                    off.add(new PutOff(put(e.block(), 2 * e.j(), 0), false, e.node()));
                    return true;
                }
            }
            return false;
        }

        int due(int n) {
            int many = 0;
            for (int d : reached(0)) {
                for (Entry e : named(0, d)) {
                    many += e.node() == n ? 1 : 0;
                }
            }
            for (PutOff p : off) {
                many += !p.frees() && p.what() == n ? 1 : 0;
            }
            return many;
        }

        int found() {
            for (int n = 1; n < 12; n++) {
                if (links(0, n) > due(n)) {
                    return n;
                }
            }
            for (int b = 4; b < size; b++) {
                boolean kept = side[0][0][b] == 0;
                for (int n = 0; n < 12; n++) {
                    kept |= links(0, n) > 0 && (first(0, n) == b || second(0, n) == b);
                }
                for (PutOff p : off) {
                    kept |= p.frees() && p.what() == b;
                }
                if (!kept) {
                    return 100 + b;
                }
            }
            return -1;
        }

        boolean sweep() {
            int found = found();
            if (found < 0) {
                return false;
            }
            if (found < 100) {
                relink(found, due(found));
            } else {
                put(0, found - 100, 0);
            }
            return true;
        }

        int leaks(int s) {
            int bits = 0;
            Set<Integer> pointed = new HashSet<>();
            for (int n : reached(s)) {
                pointed.add(first(s, n));
                pointed.add(second(s, n));
            }
            for (int b = 4; b < size; b++) {
                if (side[s][0][b] != 0 && !pointed.contains(b)) {
                    bits |= 1 << b;
                }
            }
            return bits;
        }

        int linked(int s) {
            int bits = 0;
            for (int n = 0; n < 12; n++) {
                bits |= links(s, n) > 0 ? 1 << n : 0;
            }
            return bits;
        }

        int broken(int s) {
            int many = 0;
            for (int d : reached(s)) {
                for (Entry e : named(s, d)) {
                    many += links(s, e.node()) == 0 || tag(s, e.node()) == 0 ? 1 : 0;
                }
            }
            Set<Integer> ahead = new HashSet<>();
            for (int n = 0; n < 12; n++) {
                for (int b : new int[] {first(s, n), second(s, n)}) {
                    if (links(s, n) > 0 && b != 0) {
                        many += side[s][0][b] == 0 | !ahead.add(b) ? 1 : 0;
                    }
                }
            }
            return many;
        }

        int under(int s, int n) {
            int many = 0;
            for (Entry e : named(s, n)) {
                many += 1 + under(s, e.node());
            }
            return many;
        }

        int deep(int s, int n) {
            if (!directory(s, n)) {
                return 0;
            }
            int most = 0;
            for (Entry e : named(s, n)) {
                most = Math.max(most, deep(s, e.node()));
            }
            return most + 1;
        }

        int waits(int block) {
            int bits = 0;
            for (Change c : of(block)) {
                for (Change n : c.needs) {
                    if (unsafe.contains(n) && n.block != block) {
                        bits |= 1 << n.block;
                    }
                }
            }
            return bits;
        }

        /** Breadth first over all writes, with no bound but the number of them. */
        boolean safeBy(int writes) {
            if (unsafe.isEmpty()) {
                return true;
            }
            if (writes == 0) {
                return false;
            }
            for (int b : dirty()) {
                World w = twin();
                w.write(b);
                if (w.safeBy(writes - 1)) {
                    return true;
                }
            }
            return false;
        }

        int seed;

        int drawn(int by) {
            seed = (int) (seed * 1103515245L + 12345L);
            return ((seed & 0x7fff0000) >> 16) % by;
        }

        World storm(int from, int many, int q) {
            World w = twin();
            w.seed = from;
            for (int k = 0; k < many; k++) {
                switch (w.drawn(8)) {
                    case 0:
                    case 1:
                        w.step("make", 0, 1 + w.drawn(9));
                        break;
                    case 2:
                        w.step("drop", 0, 1 + w.drawn(9));
                        break;
                    case 3:
                        w.step("grow", w.drawn(12), w.drawn(100));
                        break;
                    case 4:
                        w.step("cut", w.drawn(12));
                        break;
                    default:
                        w.step("write", w.drawn(w.size));
                        break;
                }
                if (w.drawn(16) < q) {
                    w.crash();
                }
            }
            return w;
        }
    }

    private record Shot(World world, List<World> works) { }

    private World now = World.first(16);
    private List<World> works = new ArrayList<>();
    private final List<Shot> shots = new ArrayList<>();
    private final List<Integer> tape = new ArrayList<>();
    private int[] lines = blank();
    private int faultPlace = -1;
    private int refusedSteps;
    private final int[] refusals = new int[4];
    private int begun;

    private static int[] blank() {
        int[] row = new int[16];
        java.util.Arrays.fill(row, -1);
        return row;
    }

    // ---- texts

    private String text;
    private int at;

    private void blanks() {
        while (at < text.length() && text.charAt(at) == ' ') {
            at++;
        }
    }

    private boolean sees(char c) {
        blanks();
        return at < text.length() && text.charAt(at) == c;
    }

    private void sign(char c) {
        if (!sees(c)) {
            throw new Fault(1, at);
        }
        at++;
    }

    private int number(int least, int most) {
        blanks();
        int from = at;
        while (at < text.length() && text.charAt(at) >= '0' && text.charAt(at) <= '9') {
            at++;
        }
        if (from == at) {
            throw new Fault(1, at);
        }
        java.math.BigInteger big = new java.math.BigInteger(text.substring(from, at));
        if (big.compareTo(java.math.BigInteger.valueOf(least)) < 0
                || big.compareTo(java.math.BigInteger.valueOf(most)) > 0) {
            throw new Fault(2, from);
        }
        return big.intValue();
    }

    private String word() {
        blanks();
        int from = at;
        while (at < text.length() && text.charAt(at) >= 'a' && text.charAt(at) <= 'z') {
            at++;
        }
        return text.substring(from, at);
    }

    private Step step(String word, int from) {
        switch (word) {
            case "make":
            case "dir":
            case "drop":
                return new Step(word, new int[] {number(0, 11), number(1, 99)}, null);
            case "link":
                return new Step(word, new int[] {number(0, 11), number(1, 99), number(0, 11)}, null);
            case "grow":
                return new Step(word, new int[] {number(0, 11), number(0, 99)}, null);
            case "put":
                return new Step(word, new int[] {number(0, 11), number(0, 31), number(0, 99)}, null);
            case "cut":
                return new Step(word, new int[] {number(0, 11)}, null);
            case "write":
                return new Step(word, new int[] {number(0, 15)}, null);
            case "sync":
            case "crash":
            case "sweep":
                return new Step(word, new int[0], null);
            default:
                throw new Fault(1, from);
        }
    }

    private List<Step> steps(int open) {
        List<Step> all = new ArrayList<>();
        for (blanks(); open > 0 ? !sees(']') : at < text.length(); blanks()) {
            int from = at;
            String word = word();
            if (word.equals("again")) {
                if (open == 6) {
                    throw new Fault(3, from);
                }
                int times = number(0, 60);
                sign('[');
                List<Step> body = steps(open + 1);
                sign(']');
                all.add(new Step(word, new int[] {times}, body));
            } else {
                all.add(step(word, from));
            }
            sign(';');
        }
        return all;
    }

    private String take(int n) {
        StringBuilder s = new StringBuilder();
        for (int k = 0; k < n; k++) {
            s.append((char) (int) tape.get(k));
        }
        tape.clear();
        faultPlace = -1;
        at = 0;
        return s.toString();
    }

    public int feed(int a, int b, int c, int d, int e) {
        if (tape.size() + 20 > 600) {
            return -1;
        }
        for (int x : new int[] {a, b, c, d, e}) {
            for (byte y : java.nio.ByteBuffer.allocate(4).putInt(x).array()) {
                tape.add(y & 255);
            }
        }
        return tape.size();
    }

    private void legal(boolean ok) {
        if (!ok) {
            refusals[1]++;
            throw new IllegalArgumentException();
        }
    }

    private void inside(boolean ok) {
        if (!ok) {
            refusals[3]++;
            throw new IndexOutOfBoundsException();
        }
    }

    private void nodeThere(int n) {
        if (n < 0 || n > 11) {
            refusals[0]++;
            throw new NoSuchElementException();
        }
    }

    private void side(int where) {
        legal(where == 0 || where == 1);
    }

    private void blockThere(int b) {
        inside(b >= 0 && b < now.size);
    }

    public int store(int n) {
        legal(n >= 0 && n <= tape.size());
        text = take(n);
        try {
            int size = 16;
            List<Step> all = new ArrayList<>();
            int clauses = 0;
            for (blanks(); at < text.length(); blanks()) {
                int from = at;
                String word = word();
                if (!List.of("size", "make", "dir", "link", "grow", "put").contains(word)) {
                    throw new Fault(1, from);
                }
                if (++clauses > 60) {
                    throw new Fault(3, from);
                }
                if (word.equals("size")) {
                    size = number(6, 16);
                } else {
                    all.add(step(word, from));
                }
                sign(';');
            }
            now = World.first(size);
            for (Step s : all) {
                now.step(s.word(), s.numbers());
                now.settle();
            }
            now.writes = 0;
            now.held = 0;
            now.made = 0;
            lines = blank();
            works.clear();
            shots.clear();
            refusedSteps = 0;
            return size;
        } catch (Fault f) {
            faultPlace = f.place;
            return f.kind - 10;
        }
    }

    public int work(int n) {
        legal(n >= 0 && n <= tape.size() && n <= 150);
        text = take(n);
        if (works.size() == 16) {
            return -20;
        }
        try {
            List<Step> all = steps(0);
            works.add(now.twin());
            begun = 0;
            refusedSteps = 0;
            return run(all);
        } catch (Fault f) {
            faultPlace = f.place;
            return f.kind - 10;
        }
    }

    private int run(List<Step> all) {
        int done = 0;
        for (Step s : all) {
            if (begun == 200) {
                return done;
            }
            begun++;
            if (s.body() != null) {
                for (int k = 0; k < s.numbers()[0]; k++) {
                    done += run(s.body());
                }
            } else if (now.step(s.word(), s.numbers())) {
                done++;
            } else {
                refusedSteps++;
            }
        }
        return done;
    }

    public int book(int n) {
        legal(n >= 0 && n <= tape.size() && n <= 60);
        text = take(n);
        try {
            int[] fresh = blank();
            for (blanks(); at < text.length(); blanks()) {
                int from = at;
                int p = number(0, 15);
                if (fresh[p] >= 0) {
                    throw new Fault(2, from);
                }
                fresh[p] = number(0, 99);
                sign(';');
            }
            lines = fresh;
            return told(7);
        } catch (Fault f) {
            faultPlace = f.place;
            return f.kind - 10;
        }
    }

    public int fault() {
        return faultPlace;
    }

    public int undo() {
        if (works.isEmpty()) {
            return -1;
        }
        now = works.remove(works.size() - 1);
        refusedSteps = 0;
        return works.size();
    }

    // ---- asked

    private static int bits(Iterable<Integer> all) {
        int bits = 0;
        for (int k : all) {
            bits |= 1 << k;
        }
        return bits;
    }

    public int told(int what) {
        legal(what >= 0 && what <= 9);
        int known = 0;
        for (int v : lines) {
            known += v >= 0 ? 1 : 0;
        }
        return new int[] {now.size, now.unsafe.size(), now.off.size(), bits(now.dirty()), now.writes,
            now.held, now.crashes, known, refusedSteps, now.made}[what];
    }

    public int peek(int block, int place, int where) {
        side(where);
        blockThere(block);
        inside(place >= 0 && place < 16);
        return now.side[where][block][place];
    }

    public int node(int n, int what, int where) {
        nodeThere(n);
        legal(what >= 0 && what <= 4);
        side(where);
        return new int[] {now.links(where, n), now.tag(where, n), now.first(where, n), now.second(where, n),
            now.reached(where).contains(n) ? 1 : 0}[what];
    }

    public int find(int n, int name, int where) {
        nodeThere(n);
        legal(name >= 1 && name <= 99);
        side(where);
        for (Entry e : now.entries(where, n)) {
            if (e.name() == name) {
                return e.node();
            }
        }
        return -1;
    }

    public int used(int where) {
        side(where);
        int bits = 0;
        for (int b = 0; b < now.size; b++) {
            bits |= now.side[where][0][b] << b;
        }
        return bits;
    }

    public int leaks(int where) {
        side(where);
        return now.leaks(where);
    }

    public int lost(int where) {
        side(where);
        return now.linked(where) & ~bits(now.reached(where));
    }

    public int broken(int where) {
        side(where);
        return now.broken(where);
    }

    public int under(int n, int where) {
        nodeThere(n);
        side(where);
        return now.under(where, n);
    }

    public int deep(int n, int where) {
        nodeThere(n);
        side(where);
        return now.deep(where, n);
    }

    public int change(int k, int what) {
        legal(what >= 0 && what <= 5);
        inside(k >= 0 && k <= 255);
        if (k >= now.unsafe.size()) {
            refusals[2]++;
            throw new NullPointerException();
        }
        Change c = now.unsafe.get(k);
        int needs = 0;
        for (Change n : c.needs) {
            needs += now.unsafe.contains(n) ? 1 : 0;
        }
        return new int[] {c.block, c.place, c.was[0], c.puts, needs,
            now.going(c.block).contains(c) ? 1 : 0}[what];
    }

    public int held(int block) {
        blockThere(block);
        return now.of(block).size() - now.going(block).size();
    }

    public int copy(int block, int place) {
        blockThere(block);
        inside(place >= 0 && place < 16);
        World w = now.twin();
        return w.write(block) ? w.side[1][block][place] : now.side[0][block][place];
    }

    public int waits(int block) {
        blockThere(block);
        return now.waits(block);
    }

    public int rings() {
        int many = 0;
        for (int a = 0; a < 16; a++) {
            for (int b = 0; b < a; b++) {
                many += now.waits(a) >> b & now.waits(b) >> a & 1;
            }
        }
        return many;
    }

    public int settle() {
        int many = now.twin().settle();
        return many > 200 ? -1 : many;
    }

    public int spill(int what) {
        legal(what == 0 || what == 1);
        World w = now.twin();
        List<Integer> seen = new ArrayList<>();
        seen.add(Integer.bitCount(w.leaks(1)));
        while (!w.unsafe.isEmpty()) {
            for (int b = 0; b < w.size; b++) {
                if (w.write(b)) {
                    seen.add(Integer.bitCount(w.leaks(1)));
                }
            }
        }
        int most = Collections.max(seen);
        return what == 0 ? most : seen.indexOf(most);
    }

    public int fewest() {
        for (int k = 0; k <= 4; k++) {
            if (now.safeBy(k)) {
                return k;
            }
        }
        return -1;
    }

    public int finds() {
        return now.found();
    }

    public int sweeps() {
        World w = now.twin();
        w.crash();
        int many = 0;
        while (w.step("sweep")) {
            many++;
            w.settle();
        }
        return many;
    }

    private List<Integer> fitting() {
        List<Integer> all = new ArrayList<>();
        for (int b : now.dirty()) {
            int[] row = now.copyOf(b);
            boolean ok = true;
            for (int p = 0; p < 16; p++) {
                ok &= lines[p] < 0 || lines[p] == row[p];
            }
            if (ok) {
                all.add(b);
            }
        }
        return all;
    }

    public int fits() {
        return bits(fitting());
    }

    public int look(int what) {
        legal(what == 0 || what == 1);
        int best = -1;
        int bestWorst = -1;
        for (int p = 0; p < 16; p++) {
            if (lines[p] < 0) {
                int worst = 0;
                for (int v = 0; v < 100; v++) {
                    int left = 0;
                    for (int b : fitting()) {
                        left += now.copyOf(b)[p] == v ? 1 : 0;
                    }
                    worst = Math.max(worst, left);
                }
                if (best < 0 || worst < bestWorst) {
                    best = p;
                    bestWorst = worst;
                }
            }
        }
        return what == 0 ? best : bestWorst;
    }

    public int room(int n) {
        nodeThere(n);
        return now.entries(0, n).size() - now.named(0, n).size();
    }

    public int owner(int block, int where) {
        side(where);
        blockThere(block);
        for (int n = 0; n < 12; n++) {
            if (block != 0 && now.links(where, n) > 0
                    && (now.first(where, n) == block || now.second(where, n) == block)) {
                return n;
            }
        }
        return -1;
    }

    public int unlike(int block) {
        blockThere(block);
        int many = 0;
        for (int p = 0; p < 16; p++) {
            many += now.side[0][block][p] != now.side[1][block][p] ? 1 : 0;
        }
        return many;
    }

    public int storm(int seed, int many, int q, int what) {
        legal(many >= 1 && many <= 96 && q >= 0 && q <= 16 && what >= 0 && what <= 3);
        World w = now.storm(seed, many, q);
        return new int[] {Integer.bitCount(w.leaks(1)), w.linked(1), w.writes - now.writes, w.broken(1)}[what];
    }

    public int span(int seed, int seeds, int many, int q, int what, int n) {
        nodeThere(n);
        legal(seeds >= 1 && seeds <= 5 && many >= 1 && many <= 96 && q >= 0 && q <= 16
                && what >= 0 && what <= 2);
        List<Integer> leaks = new ArrayList<>();
        int linked = 0;
        for (int k = 0; k < seeds; k++) {
            World w = now.storm(seed + k, many, q);
            leaks.add(Integer.bitCount(w.leaks(1)));
            linked += w.linked(1) >> n & 1;
        }
        return new int[] {Collections.min(leaks), Collections.max(leaks), linked}[what];
    }

    public int image() {
        if (shots.size() == 3) {
            return -1;
        }
        List<World> kept = new ArrayList<>();
        for (World w : works) {
            kept.add(w.twin());
        }
        shots.add(new Shot(now.twin(), kept));
        return shots.size();
    }

    public int restore() {
        if (shots.isEmpty()) {
            return -1;
        }
        Shot shot = shots.remove(shots.size() - 1);
        now = shot.world();
        works = shot.works();
        refusedSteps = 0;
        return shots.size();
    }

    public int status(int what) {
        return what >= 0 && what <= 3 ? refusals[what] : -1;
    }

    public int count(int what) {
        return what == 0 ? shots.size() : what == 1 ? tape.size() : what == 2 ? works.size() : -1;
    }
}
