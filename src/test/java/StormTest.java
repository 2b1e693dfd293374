/** Promises 33 and 34: a storm is as the work of the steps that its seed draws. */
public final class StormTest {
    private static long seed;

    private static int drawn(int by) {
        seed = (seed * 1103515245L + 12345L) & 0xffffffffL;
        return (int) (seed / 65536 % 32768) % by;
    }

    private static String step(int blocks) {
        switch (drawn(8)) {
            case 0:
            case 1:
                return "make 0 " + (1 + drawn(9)) + ";";
            case 2:
                return "drop 0 " + (1 + drawn(9)) + ";";
            case 3:
                int node = drawn(12);
                return "grow " + node + " " + drawn(100) + ";";
            case 4:
                return "cut " + drawn(12) + ";";
            default:
                return "write " + drawn(blocks) + ";";
        }
    }

    private static void work(RolledBack x, String text) {
        Due.feed(x, text);
        x.work(text.length());
    }

    /** The same steps as works, behind which everything is taken back. */
    static int[] worked(RolledBack x, int from, int many, int q) {
        seed = from & 0xffffffffL;
        int before = x.told(4);
        StringBuilder text = new StringBuilder();
        int works = 0;
        for (int k = 0; k <= many; k++) {
            String next = k == many ? " ".repeat(150) : step(x.told(0)) + (drawn(16) < q ? "crash;" : "");
            if (text.length() + next.length() > 150) {
                work(x, text.toString());
                works++;
                text.setLength(0);
            }
            text.append(next);
        }
        int linked = 0;
        for (int node = 0; node < 12; node++) {
            linked |= x.node(node, 0, 1) > 0 ? 1 << node : 0;
        }
        int[] answers = {Integer.bitCount(x.leaks(1)), linked, x.told(4) - before, x.broken(1)};
        for (int k = 0; k < works; k++) {
            x.undo();
        }
        return answers;
    }

    private static void drawing() {
        // The well-known row of this rule from 1 on.
        seed = 1;
        for (int want : new int[] {16838, 5758, 10113, 17515, 31051, 5627}) {
            Due.equal("drawn", drawn(32768), want);
        }
        // From seed 1 the first step is write 14, and then a crash below 2.
        RolledBack x = new RolledBack();
        Due.work(x, "make 0 1;grow 1 0;write 0;write 1;", 4);
        Due.call(x, 3, "storm", 1, 1, 0, 1);
        Due.call(x, 0, "storm", 1, 1, 0, 2);
        Due.call(x, 1, "storm", 1, 1, 16, 0);
    }

    private static void asWorked(String store, int many) {
        RolledBack x = new RolledBack();
        Due.feed(x, store);
        x.store(store.length());
        int[][] seeds = new int[60][];
        for (int k = 0; k < 60; k++) {
            int q = k % 3 == 0 ? 0 : k % 17;
            seeds[k] = worked(x, k * 1234567 - 5, many, q);
            for (int what = 0; what < 4; what++) {
                Due.call(x, seeds[k][what], "storm", k * 1234567 - 5, many, q, what);
            }
        }
        Due.call(x, 0, "told", 4);
        for (int k = 0; k < 20; k++) {
            int from = k == 0 ? Integer.MAX_VALUE - 1 : k * 31337;
            int many5 = 1 + k % 5;
            int fewest = 16;
            int most = 0;
            int linked = 0;
            for (int j = 0; j < many5; j++) {
                int[] one = worked(x, from + j, many, 3);
                fewest = Math.min(fewest, one[0]);
                most = Math.max(most, one[0]);
                linked += one[1] >> 3 & 1;
            }
            Due.call(x, fewest, "span", from, many5, many, 3, 0, 11);
            Due.call(x, most, "span", from, many5, many, 3, 1, 0);
            Due.call(x, linked, "span", from, many5, many, 3, 2, 3);
        }
    }

    private static void wrongInputs() {
        RolledBack x = new RolledBack();
        String illegal = "IllegalArgumentException";
        Due.call(x, illegal, "storm", 0, 0, 0, 0);
        Due.call(x, illegal, "storm", 0, 97, 0, 0);
        Due.call(x, illegal, "storm", 0, 1, -1, 0);
        Due.call(x, illegal, "storm", 0, 1, 17, 0);
        Due.call(x, illegal, "storm", 0, 1, 0, -1);
        Due.call(x, illegal, "storm", 0, 1, 0, 4);
        Due.call(x, 0, "storm", 0, 96, 16, 3);
        Due.call(x, illegal, "span", 0, 0, 1, 0, 0, 0);
        Due.call(x, illegal, "span", 0, 6, 1, 0, 0, 0);
        Due.call(x, illegal, "span", 0, 1, 0, 0, 0, 0);
        Due.call(x, illegal, "span", 0, 1, 97, 0, 0, 0);
        Due.call(x, illegal, "span", 0, 1, 1, 17, 0, 0);
        Due.call(x, illegal, "span", 0, 1, 1, -1, 0, 0);
        Due.call(x, illegal, "span", 0, 1, 1, 0, 3, 0);
        Due.call(x, illegal, "span", 0, 1, 1, 0, -1, 0);
        for (int what = 0; what < 3; what++) {
            Due.call(x, "NoSuchElementException", "span", 0, 9, 0, 99, what, 12);
            Due.call(x, "NoSuchElementException", "span", 0, 1, 1, 0, what, -1);
        }
        Due.call(x, 5, "span", 0, 5, 1, 0, 2, 0);
        Due.call(x, 6, "status", 0);
        Due.call(x, 14, "status", 1);
    }

    public static void main(String[] args) {
        drawing();
        asWorked("", 96);
        asWorked("size 7;make 0 1;make 0 2;grow 1 5;make 0 3;", 40);
        asWorked("dir 0 1;dir 0 2;make 0 3;grow 3 1;grow 3 2;grow 0 0;make 0 9;", 96);
        wrongInputs();
        Due.end();
    }
}
