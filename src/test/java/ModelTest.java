import java.util.ArrayList;
import java.util.List;
import java.util.Random;

/** Runs drawn by seeds, each call's answer held against PlainModel's (all promises). */
public final class ModelTest {
    private static final String[] STEPS = {"make", "dir", "link", "grow", "put", "cut", "drop", "write",
        "sync", "crash", "sweep", "again"};
    /** How often each step is drawn, by moods: mixed, trees, piling up, letting go, crashing, full, few blocks. */
    private static final int[][] MOODS = {
        {6, 4, 4, 6, 3, 3, 5, 8, 2, 1, 1, 1},
        {4, 9, 2, 3, 1, 1, 5, 6, 2, 1, 1, 1},
        {8, 4, 9, 6, 9, 3, 6, 1, 0, 0, 1, 1},
        {3, 2, 2, 4, 1, 6, 9, 9, 1, 0, 1, 1},
        {5, 3, 2, 5, 1, 2, 5, 9, 1, 4, 4, 1},
        {2, 2, 6, 9, 9, 5, 7, 2, 1, 0, 1, 3},
        {3, 2, 1, 9, 12, 9, 3, 9, 0, 0, 1, 1},
    };
    private static final int CALLS = 512;

    private final Random random;
    private final RolledBack mine = new RolledBack();
    private final PlainModel plain = new PlainModel();
    private final List<String> told = new ArrayList<>();
    private final int names;
    private final int nodes;
    private final int mood;
    private boolean wrong;

    private ModelTest(long seed) {
        random = new Random(seed);
        names = 2 + random.nextInt(14);
        mood = random.nextInt(MOODS.length);
        nodes = 2 + random.nextInt(mood == 6 ? 2 : 11);
    }

    private int below(int n) {
        return random.nextInt(n);
    }

    private void call(String name, int... args) {
        String got = Due.answer(mine, name, args);
        String want = Due.answer(plain, name, args);
        told.add(Due.told(name, args) + " = " + got);
        if (!got.equals(want) && !wrong) {
            wrong = true;
            System.out.println("the run:");
            told.forEach(System.out::println);
            Due.equal(Due.told(name, args), got, want);
        }
    }

    private String step(int open) {
        int sum = 0;
        int[] weights = MOODS[mood];
        for (int w : weights) {
            sum += w;
        }
        int drawn = below(sum);
        int k = 0;
        while (drawn >= weights[k]) {
            drawn -= weights[k];
            k++;
        }
        int d = below(3) == 0 ? 0 : below(nodes);
        int n = 1 + below(names);
        int m = below(nodes);
        int v = below(4) == 0 ? below(100) : below(3);
        switch (STEPS[k]) {
            case "make":
            case "dir":
            case "drop":
                return STEPS[k] + " " + d + " " + n;
            case "link":
                return "link " + d + " " + n + " " + m;
            case "grow":
                return "grow " + m + " " + (mood == 6 ? below(2) : v);
            case "put":
                return "put " + m + " " + (mood == 6 ? below(2) * 16 : below(32)) + " " + (mood == 6 ? below(2) : v);
            case "cut":
                return "cut " + m;
            case "write":
                return "write " + (below(3) == 0 ? below(16) : below(6));
            case "again":
                return open >= 6 ? "sync" : "again " + below(below(8) == 0 ? 61 : 4) + " [" + steps(below(4), open + 1) + "]";
            default:
                return STEPS[k];
        }
    }

    private String steps(int many, int open) {
        StringBuilder all = new StringBuilder();
        for (int k = 0; k < many; k++) {
            all.append(step(open)).append(';');
        }
        return all.toString();
    }

    private String fitted(String all, int most) {
        String text = all;
        while (text.length() > most) {
            int cut = text.lastIndexOf(';', text.length() - 2);
            text = text.substring(0, cut + 1);
        }
        return text;
    }

    /** One byte in a text is another one now and then, is gone, or comes twice. */
    private String spoiled(String text) {
        if (text.isEmpty() || below(12) != 0) {
            return text;
        }
        int at = below(text.length());
        String signs = " ;[]0123456789aesyz-A\0\377";
        switch (below(4)) {
            case 0:
                return text.substring(0, at);
            case 1:
                return text.substring(0, at) + text.substring(at + 1);
            case 2:
                return text.substring(0, at) + signs.charAt(below(signs.length())) + text.substring(at);
            default:
                return text.substring(0, at) + signs.charAt(below(signs.length())) + text.substring(at + 1);
        }
    }

    /** Directories that are full, or nearly: so that a second block is taken, and much can be let go of. */
    private String fullStore() {
        StringBuilder all = new StringBuilder();
        int directories = below(4);
        for (int d = 1; d <= directories; d++) {
            all.append("dir ").append(below(d)).append(' ').append(50 + d).append(';');
        }
        int files = 1 + below(5);
        for (int k = 1; k <= files; k++) {
            all.append("make 0 ").append(60 + k).append(';');
        }
        for (int k = 0; k < 8 * files && k < 45; k++) {
            all.append("link ").append(below(directories + 1)).append(' ').append(1 + k).append(' ')
                .append(directories + 1 + k % files).append(';');
            if (k % 9 == 8) {
                all.append("grow ").append(below(directories + 1)).append(" 0;");
            }
        }
        return fitted(all.toString(), 600);
    }

    /** Drops of what such a store has, one behind the other. */
    private String drops() {
        StringBuilder all = new StringBuilder();
        int from = below(40);
        int d = below(4);
        for (int k = 0; k < 16; k++) {
            all.append("drop ").append(below(3) == 0 ? below(4) : d).append(' ').append(1 + (from + k) % 45).append(';');
        }
        return fitted(all.toString(), 150);
    }

    private String clauses() {
        if (below(3) == 0) {
            return fullStore();
        }
        StringBuilder all = new StringBuilder();
        int many = below(6) == 0 ? below(64) : below(16);
        for (int k = 0; k < many; k++) {
            if (below(8) == 0) {
                all.append("size ").append(6 + below(11)).append(';');
            } else {
                String step = step(6);
                while (step.startsWith("cut") || step.startsWith("drop") || step.startsWith("s")
                        || step.startsWith("w") || step.startsWith("crash")) {
                    step = step(6);
                }
                all.append(step).append(';');
            }
        }
        return all.toString();
    }

    private String lines() {
        StringBuilder all = new StringBuilder();
        int from = below(16);
        for (int k = below(below(5) == 0 ? 17 : 4); k > 0; k--) {
            int p = (from + k * 5) % 16;
            int block = below(6);
            int v = below(2) == 0 ? below(3) : plain.copy(block, p);
            all.append(p).append(' ').append(v).append(';');
        }
        return all.toString();
    }

    private void text(String call, String text, int most) {
        String given = spoiled(text);
        for (int from = 0; from < given.length(); from += 20) {
            int[] five = new int[5];
            for (int k = 0; k < 20; k++) {
                int sign = from + k < given.length() ? given.charAt(from + k) : 0;
                five[k / 4] = five[k / 4] << 8 | sign & 255;
            }
            call("feed", five);
        }
        told.add("'" + given + "'");
        call(call, below(40) == 0 ? most + 1 - below(3) : given.length());
        call("fault");
    }

    /** Mostly one that is there; now and then one beside it, or far away. */
    private int what(int most) {
        switch (below(90)) {
            case 0:
                return Integer.MIN_VALUE + below(2);
            case 1:
                return Integer.MAX_VALUE - below(2);
            case 2:
                return -1 - below(3);
            case 3:
                return most + 1 + below(3);
            default:
                return below(most + 1);
        }
    }

    private int where() {
        return what(1);
    }

    private int node() {
        return what(11);
    }

    private int block() {
        return what(15);
    }

    private int place() {
        return what(15);
    }

    private void ask(int which) {
        switch (which) {
            case 0: call("told", what(9)); break;
            case 1: call("peek", block(), place(), where()); break;
            case 2: call("node", node(), what(4), where()); break;
            case 3: call("find", node(), what(names), where()); break;
            case 4: call("used", where()); break;
            case 5: call("leaks", where()); break;
            case 6: call("lost", where()); break;
            case 7: call("broken", where()); break;
            case 8: call("under", node(), where()); break;
            case 9: call("deep", node(), where()); break;
            case 10: call("change", below(8) == 0 ? below(300) - 20 : below(20), what(5)); break;
            case 11: call("held", block()); break;
            case 12: call("copy", block(), place()); break;
            case 13: call("waits", block()); break;
            case 14: call("rings"); break;
            case 15: call("settle"); break;
            case 16: call("spill", what(1)); break;
            case 17: call("fewest"); break;
            case 18: call("finds"); break;
            case 19: call("sweeps"); break;
            case 20: call("fits"); break;
            case 21: call("look", what(1)); break;
            case 22: call("room", node()); break;
            case 23: call("owner", block(), where()); break;
            case 24: call("unlike", block()); break;
            case 25: call("storm", random.nextInt(), 1 + what(95), what(16), what(3)); break;
            case 26: call("span", random.nextInt(), 1 + what(4), 1 + what(95), what(16), what(2), node()); break;
            case 27: call("status", what(3)); break;
            case 28: call("count", what(2)); break;
            default: break;
        }
    }

    /** All that can be seen of the state, call by call, so that no difference hides. */
    private void askAll() {
        for (int k = 0; k < 10; k++) {
            call("told", k);
        }
        for (int where = 0; where < 2; where++) {
            for (String name : new String[] {"used", "leaks", "lost", "broken"}) {
                call(name, where);
            }
            for (int n = 0; n < 12; n++) {
                call("under", n, where);
                call("deep", n, where);
            }
        }
        for (int b = 0; b < plain.told(0); b++) {
            for (int p = 0; p < 16; p++) {
                call("peek", b, p, 0);
                call("peek", b, p, 1);
                call("copy", b, p);
            }
            call("held", b);
            call("waits", b);
            call("unlike", b);
            call("owner", b, 0);
            call("owner", b, 1);
        }
        for (int k = 0; k < plain.told(1); k++) {
            for (int what = 0; what < 6; what++) {
                call("change", k, what);
            }
        }
        for (String name : new String[] {"rings", "settle", "fewest", "finds", "sweeps", "fits", "fault"}) {
            call(name);
        }
        for (int what = 0; what < 2; what++) {
            call("spill", what);
            call("look", what);
        }
    }

    /**
     * Each directory names one that takes the block of the directory ahead of it, and is then let go of
     * with that name held back: so each waits for the one ahead of it, and SETTLE takes many rounds.
     */
    private void chain(int links) {
        text("store", "dir 0 1;dir 0 2;dir 0 3;dir 0 4;dir 0 5;dir 0 6;dir 0 7;make 0 8;grow 8 9;", 601);
        text("work", "cut 8;write 3;", 151);
        for (int d = 1; d <= links; d++) {
            text("work", "dir " + d + " 1;drop " + d + " 1;drop 0 " + d + ";write 4;write 1;write 2;"
                + (below(2) == 0 ? "write 0;" : ""), 151);
        }
    }

    private void run() {
        int start = below(7);
        if (start < 2) {
            text("store", fullStore(), 601);
        } else if (start == 2) {
            // The root is full, and a block has bytes of old: a directory's second block makes a ring.
            text("store", "make 0 91;link 0 92 1;link 0 93 1;link 0 94 1;link 0 95 1;link 0 96 1;dir 0 97;dir 0 98;"
                + "grow 1 9;grow 1 9;", 601);
            text("work", "cut 1;cut 1;write 1;write 0;grow 0 0;" + fitted(steps(6, 0), 100), 151);
        } else if (start == 3) {
            chain(1 + below(7));
        } else if (start == 4) {
            text("store", Due.TEN_FILES, 601);
            for (String work : Due.losingWorks(1 + below(6), 1 + below(3))) {
                text("work", work, 151);
            }
        }
        while (told.size() < CALLS && !wrong) {
            int drawn = below(100);
            if (drawn < 3) {
                text("store", clauses(), 601);
            } else if (drawn < 30) {
                text("work", below(6) == 0 ? drops() : fitted(steps(below(20), 0), 150), 151);
            } else if (drawn < 35) {
                text("book", fitted(lines(), 60), 61);
            } else if (drawn < 39) {
                call("undo");
            } else if (drawn < 42) {
                call("image");
            } else if (drawn < 45) {
                call("restore");
            } else {
                ask(below(29));
            }
            if (plain.broken(1) != 0) {
                wrong = true;
                Due.equal("broken(1)", plain.broken(1), 0);
            }
        }
        if (!wrong) {
            askAll();
        }
    }

    public static void main(String[] args) {
        int runs = args.length > 0 ? Integer.parseInt(args[0]) : 400;
        int from = args.length > 1 ? Integer.parseInt(args[1]) : 0;
        int mostChanges = 0;
        for (int seed = from; seed < from + runs && Due.wrongSoFar() < 3; seed++) {
            ModelTest test = new ModelTest(seed);
            test.run();
            mostChanges = Math.max(mostChanges, test.plain.told(1));
            if (!test.wrong) {
                Due.equal("run " + seed, "alike", "alike");
            } else {
                System.out.println("run " + seed + " differs");
            }
        }
        System.out.println("most changes that were UNSAFE at a run's end: " + mostChanges);
        Due.end();
    }
}
