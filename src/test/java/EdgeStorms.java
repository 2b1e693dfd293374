/** The edges of promises 33 and 34, and of what Terms, section 3, says of storms. */
final class EdgeStorms {
    private static final String ILLEGAL = "IllegalArgumentException";
    private static final int ANY = -1;
    private static final int LEAKS = 0;
    private static final int LINKED = 1;
    private static final int WRITES = 2;
    private static final int BROKEN = 3;
    /** Ten nodes that are directories, each but the last in the one ahead of it; NODE 11 is a file of one block, the last. */
    private static final String ELEVEN = "dir 0 1;dir 1 1;dir 2 1;dir 3 1;dir 4 1;dir 5 1;dir 6 1;dir 7 1;dir 8 1;make 9 1;make 9 2;"
        + "grow 11 5;";

    private EdgeStorms() { }

    /** A seed that draws so: by what, and what is left, by turns. By long numbers, to share nothing with the class. */
    private static int seedThatDraws(int... draws) {
        for (long from = 0; from < 60_000_000L; from++) {
            long seed = from;
            boolean same = true;
            for (int k = 0; same && k < draws.length; k += 2) {
                seed = (seed * 1103515245L + 12345L) % 4294967296L;
                same = draws[k + 1] == ANY || seed / 65536 % 32768 % draws[k] == draws[k + 1];
            }
            if (same) {
                return (int) from;
            }
        }
        throw new IllegalStateException("no such seed");
    }

    /** A step and the write of a block behind it, without a crash: how many writes are done. */
    private static void thenWrite(RolledBack x, int want, int block, int... draws) {
        int[] all = java.util.Arrays.copyOf(draws, draws.length + 6);
        int[] write = {16, ANY, 8, 5, x.told(0), block};
        System.arraycopy(write, 0, all, draws.length, 6);
        Due.call(x, want, "storm", seedThatDraws(all), 2, 0, WRITES);
    }

    // ---- Terms, section 3

    @Says("A STORM by a SEED: so many times: DRAWN by 8: 0, 1: make 0 of 1 more than DRAWN by 9;")
    static void t3_stormMakesTheFirstAndTheLastName() {
        // Where the name is there, the make is not done, and block 1 is not DIRTY.
        RolledBack first = Due.made("make 0 1;");
        RolledBack last = Due.made("make 0 9;");
        for (int kind = 0; kind < 2; kind++) {
            thenWrite(first, 0, 1, 8, kind, 9, 0);
            thenWrite(first, 1, 1, 8, kind, 9, 8);
            thenWrite(last, 1, 1, 8, kind, 9, 0);
            thenWrite(last, 0, 1, 8, kind, 9, 8);
        }
        Due.call(first, 7, "storm", seedThatDraws(8, 0, 9, 8, 16, ANY, 8, 7, 16, 1), 2, 0, LINKED);
        Due.call(first, 3, "storm", seedThatDraws(8, 0, 9, 8, 16, ANY, 8, 7, 16, 2), 2, 0, LINKED);
        Due.call(first, 3, "storm", seedThatDraws(8, 0, 9, 8, 16, ANY, 8, 7, 16, 1), 1, 0, LINKED);
    }

    @Says("2: drop 0 likewise;")
    static void t3_stormDropsTheFirstAndTheLastName() {
        RolledBack first = Due.made("make 0 1;");
        RolledBack last = Due.made("make 0 9;");
        thenWrite(first, 1, 4, 8, 2, 9, 0);
        thenWrite(first, 0, 4, 8, 2, 9, 8);
        thenWrite(last, 0, 4, 8, 2, 9, 0);
        thenWrite(last, 1, 4, 8, 2, 9, 8);
    }

    @Says("3: grow NODE DRAWN by 12, of V DRAWN by 100;")
    static void t3_stormGrowsTheFirstAndTheLastNode() {
        // The root gets a second block, NODE 11 has none left; of the MAP that is seen on DISK.
        RolledBack x = Due.made("make 0 1;");
        Due.call(x, 1, "storm", seedThatDraws(8, 3, 12, 0, 100, ANY, 16, ANY, 8, 6, 16, 0), 2, 0, LEAKS);
        Due.call(x, 0, "storm", seedThatDraws(8, 3, 12, 11, 100, ANY, 16, ANY, 8, 6, 16, 0), 2, 0, LEAKS);
        Due.call(x, 0, "storm", seedThatDraws(8, 3, 12, 2, 100, ANY, 16, ANY, 8, 6, 16, 0), 2, 0, LEAKS);
        RolledBack y = Due.made(ELEVEN);
        Due.call(y, 1, "storm", seedThatDraws(8, 3, 12, 11, 100, ANY, 16, ANY, 8, 6, 16, 0), 2, 0, LEAKS);
        // V of 0 is what is there: no WIPE is made, and block 5 is not DIRTY; of 99 it is.
        thenWrite(x, 0, 5, 8, 3, 12, 1, 100, 0);
        thenWrite(x, 1, 5, 8, 3, 12, 1, 100, 99);
        RolledBack z = Due.made("make 0 1;grow 1 99;");
        Due.work(z, "cut 1;write 1;write 0;", 3);
        thenWrite(z, 1, 5, 8, 3, 12, 1, 100, 0);
        thenWrite(z, 0, 5, 8, 3, 12, 1, 100, 99);
    }

    @Says("4: cut NODE DRAWN by 12;")
    static void t3_stormCutsTheFirstAndTheLastNode() {
        RolledBack x = Due.made(ELEVEN);
        thenWrite(x, 1, 3, 8, 4, 12, 11);
        thenWrite(x, 0, 3, 8, 4, 12, 10);
        // The root is no file.
        thenWrite(x, 0, 1, 8, 4, 12, 0);
        RolledBack y = Due.made("make 0 1;grow 1 5;");
        thenWrite(y, 1, 1, 8, 4, 12, 1);
    }

    @Says({"5 to 7: write BLOCK DRAWN by the size", "(each, if it can be done);"})
    static void t3_stormWritesTheFirstAndTheLastBlock() {
        for (int kind = 5; kind < 8; kind++) {
            RolledBack x = Due.made("size 6;make 0 1;grow 1 5;");
            Due.work(x, "put 1 0 6;", 1);
            Due.call(x, 1, "storm", seedThatDraws(8, kind, 6, 5), 1, 0, WRITES);
            Due.call(x, 0, "storm", seedThatDraws(8, kind, 6, 0), 1, 0, WRITES);
            x = Due.made(ELEVEN);
            Due.work(x, "put 11 0 6;", 1);
            Due.call(x, 1, "storm", seedThatDraws(8, kind, 16, 14), 1, 0, WRITES);
            Due.call(x, 0, "storm", seedThatDraws(8, kind, 16, 15), 1, 0, WRITES);
            Due.work(x, "grow 11 7;", 1);
            Due.call(x, 1, "storm", seedThatDraws(8, kind, 16, 15), 1, 0, WRITES);
            Due.call(x, 1, "storm", seedThatDraws(8, kind, 16, 0), 1, 0, WRITES);
        }
        // What can't be done draws as much all the same.
        RolledBack y = Due.made("make 0 1;");
        Due.work(y, "make 0 2;", 1);
        Due.call(y, 1, "storm", seedThatDraws(8, 0, 9, 0, 16, ANY, 8, 5, 16, 1), 2, 0, WRITES);
        Due.call(y, 1, "storm", seedThatDraws(8, 3, 12, 9, 100, ANY, 16, ANY, 8, 5, 16, 1), 2, 0, WRITES);
        Due.call(y, 1, "storm", seedThatDraws(8, 5, 16, 9, 16, ANY, 8, 5, 16, 1), 2, 0, WRITES);
        // Full of changes, nothing can be made, but written.
        RolledBack z = Due.made("make 0 1;grow 1 0;");
        Due.work(z, "again 30[put 1 0 1;put 1 0 0;];", 60);
        thenWrite(z, 0, 1, 8, 0, 9, 8);
        thenWrite(z, 1, 5, 8, 0, 9, 8);
    }

    @Says("then is DRAWN by 16 below Q: crash.")
    static void t3_stormCrashesBelowQ() {
        RolledBack x = Due.made("make 0 1;");
        for (int drawn : new int[] {0, 7, 15}) {
            int seed = seedThatDraws(8, 0, 9, 8, 16, drawn, 8, 5, 16, 1);
            for (int q = 0; q <= 16; q++) {
                // Behind a crash nothing is DIRTY.
                Due.call(x, drawn < q ? 0 : 1, "storm", seed, 2, q, WRITES);
            }
        }
    }

    @Says({"What is DRAWN: the SEED (32 bits) becomes itself times 1,103,515,245, and 12,345 (it wraps);",
        "its bits 16 to 30, what is left of them."})
    static void t3_whatIsDrawnByBits16To30() {
        RolledBack x = Due.made("make 0 1;grow 1 5;make 0 2;grow 2 6;");
        int[] seeds = {0, 1, -1, Integer.MAX_VALUE, Integer.MIN_VALUE, 0x7fff0000, 0xffff, 12345, -987654321};
        for (int seed : seeds) {
            int[] due = StormTest.worked(x, seed, 96, 1);
            for (int what = 0; what < 4; what++) {
                Due.call(x, due[what], "storm", seed, 96, 1, what);
                // Bit 31 comes into no lower bit, and is not drawn itself.
                Due.call(x, due[what], "storm", seed ^ Integer.MIN_VALUE, 96, 1, what);
            }
        }
        // The well-known row from 1 on: 16838 by 8 is 6, 5758 by 16 is 14.
        Due.work(x, "put 1 0 9;", 1);
        Due.call(x, 0, "storm", 1, 1, 0, WRITES);
        Due.equal("the seed that draws so", seedThatDraws(32768, 16838, 32768, 5758, 32768, 10113, 32768, 17515), 1);
    }

    // ---- Promise 33

    @Says("A STORM of so many times (1 to 96), Q (0 to 16):")
    static void p33_timesAndQAtTheirEndsAndBesideThem() {
        RolledBack x = Due.made("make 0 1;");
        for (int many : new int[] {0, -1, 97, Integer.MIN_VALUE, Integer.MAX_VALUE}) {
            Due.call(x, ILLEGAL, "storm", 1, many, 0, 0);
        }
        for (int q : new int[] {-1, 17, Integer.MIN_VALUE, Integer.MAX_VALUE}) {
            Due.call(x, ILLEGAL, "storm", 1, 1, q, 0);
        }
        for (int what : new int[] {-1, 4, Integer.MIN_VALUE, Integer.MAX_VALUE}) {
            Due.call(x, ILLEGAL, "storm", 1, 1, 0, what);
        }
        Due.call(x, 13, "status", 1);
        // Once is once: the write comes the second time.
        int seed = seedThatDraws(8, 0, 9, 8, 16, ANY, 8, 5, 16, 1);
        Due.call(x, 0, "storm", seed, 1, 0, WRITES);
        Due.call(x, 1, "storm", seed, 2, 0, WRITES);
        // 96 times are as the steps of as many, 95 are not: the last of this seed is a write that is done.
        for (int times : new int[] {1, 95, 96}) {
            for (int q : new int[] {0, 1, 16}) {
                for (int from = 0; from < 12; from++) {
                    int[] due = StormTest.worked(x, from, times, q);
                    for (int what = 0; what < 4; what++) {
                        Due.call(x, due[what], "storm", from, times, q, what);
                    }
                }
            }
        }
        for (int from = 0, found = 0; found < 3; from++) {
            int more = StormTest.worked(x, from, 96, 0)[WRITES] - StormTest.worked(x, from, 95, 0)[WRITES];
            if (more > 0) {
                found++;
                Due.call(x, x.storm(from, 95, 0, WRITES) + 1, "storm", from, 96, 0, WRITES);
            }
        }
    }

    @Says("0 LEAKS on DISK then (how many), 1 NODES with LINKS on DISK then (bits), 2 writes in it, 3 BROKEN on DISK then.")
    static void p33_whatIsSeenOnDiskThen() {
        RolledBack x = new RolledBack();
        Due.work(x, "make 0 1;grow 1 5;grow 1 6;write 0;write 1;write 4;make 0 2;", 7);
        // A write that can't be done: DISK is as it is.
        int idle = seedThatDraws(8, 5, 16, 9);
        Due.call(x, 3, "told", 4);
        Due.call(x, 2, "storm", idle, 1, 0, LEAKS);
        Due.call(x, 3, "storm", idle, 1, 0, LINKED);
        Due.call(x, 0, "storm", idle, 1, 0, WRITES);
        Due.call(x, 0, "storm", idle, 1, 0, BROKEN);
        Due.call(x, 7, "storm", seedThatDraws(8, 5, 16, 1), 1, 0, LINKED);
        // Of MEMORY they would be others.
        Due.call(x, 0, "leaks", 0);
        Due.call(x, 1, "node", 2, 0, 0);
        // Its bits are those of all nodes, of the last, too.
        RolledBack y = Due.made(ELEVEN);
        Due.call(y, 4095, "storm", idle, 1, 0, LINKED);
        // BROKEN on DISK by a byte put from outside.
        Inside.setByte(y, 1, 0, 14, 0);
        Due.call(y, 1, "storm", idle, 1, 0, BROKEN);
        Inside.setByte(y, 1, 0, 13, 0);
        Inside.setByte(y, 1, 3, 13, 0);
        Due.call(y, 3, "storm", idle, 1, 0, BROKEN);
        // No writes but those in it.
        Due.call(x, 0, "storm", idle, 1, 16, WRITES);
        Due.call(x, 0, "told", 6);
    }

    // ---- Promise 34

    @Says({"Of so many SEEDS (1 to 5; seed, seed and 1, ..):", "0 the fewest LEAKS on DISK then, 1 the most, 2 by how many a NODE has LINKS on DISK then."})
    static void p34_seedsAtTheirEndsAndOneThatRunsOver() {
        RolledBack x = Due.made("make 0 1;grow 1 5;make 0 2;grow 2 6;");
        for (int from : new int[] {0, 77, -3, Integer.MAX_VALUE, Integer.MAX_VALUE - 2, Integer.MIN_VALUE}) {
            for (int seeds = 1; seeds <= 5; seeds++) {
                int fewest = 99;
                int most = 0;
                int[] linked = new int[12];
                for (int k = 0; k < seeds; k++) {
                    int[] one = StormTest.worked(x, from + k, 40, 2);
                    fewest = Math.min(fewest, one[LEAKS]);
                    most = Math.max(most, one[LEAKS]);
                    for (int node = 0; node < 12; node++) {
                        linked[node] += one[LINKED] >> node & 1;
                    }
                }
                Due.call(x, fewest, "span", from, seeds, 40, 2, 0, 11);
                Due.call(x, most, "span", from, seeds, 40, 2, 1, 0);
                for (int node = 0; node < 12; node++) {
                    Due.call(x, linked[node], "span", from, seeds, 40, 2, 2, node);
                }
            }
        }
        Due.call(x, 5, "span", 0, 5, 96, 16, 2, 0);
        Due.call(x, 1, "span", 0, 1, 1, 0, 2, 1);
        Due.call(x, 0, "span", 0, 5, 1, 0, 2, 11);
    }

    @Says("Of so many SEEDS (1 to 5; seed, seed and 1, ..):")
    static void p34_whatIsNotOneOfThem() {
        RolledBack x = new RolledBack();
        for (int seeds : new int[] {0, 6, -1, Integer.MIN_VALUE, Integer.MAX_VALUE}) {
            Due.call(x, ILLEGAL, "span", 0, seeds, 1, 0, 0, 0);
        }
        for (int many : new int[] {0, 97, -1, Integer.MIN_VALUE, Integer.MAX_VALUE}) {
            Due.call(x, ILLEGAL, "span", 0, 1, many, 0, 0, 0);
        }
        for (int q : new int[] {-1, 17, Integer.MIN_VALUE, Integer.MAX_VALUE}) {
            Due.call(x, ILLEGAL, "span", 0, 1, 1, q, 0, 0);
        }
        for (int what : new int[] {-1, 3, Integer.MIN_VALUE, Integer.MAX_VALUE}) {
            Due.call(x, ILLEGAL, "span", 0, 1, 1, 0, what, 0);
        }
        Due.call(x, 18, "status", 1);
        Due.call(x, 0, "status", 0);
    }

    @Says("(NoSuchElementException: also for 0, 1.)")
    static void p34_noSuchNodeForAllThree() {
        RolledBack x = new RolledBack();
        for (int what = 0; what < 3; what++) {
            for (int node : new int[] {-1, 12, Integer.MIN_VALUE, Integer.MAX_VALUE}) {
                Due.call(x, "NoSuchElementException", "span", 0, 1, 1, 0, what, node);
            }
        }
        // Ahead of others.
        Due.call(x, "NoSuchElementException", "span", 0, 0, 0, -1, -1, 12);
        Due.call(x, 13, "status", 0);
        Due.call(x, 0, "status", 1);
    }
}
