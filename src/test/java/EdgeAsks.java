/** The edges of Terms, section 3, but for storms, and of promises 8 to 32: what is asked. */
final class EdgeAsks {
    private static final String ILLEGAL = "IllegalArgumentException";
    private static final String OUTSIDE = "IndexOutOfBoundsException";
    private static final String NO_NODE = "NoSuchElementException";
    private static final int[] NO_NODES = {-1, 12, Integer.MIN_VALUE, Integer.MAX_VALUE};
    private static final int[] NO_WHERES = {-1, 2, Integer.MIN_VALUE, Integer.MAX_VALUE};
    /** Ten directories, one in the other: one node is left, and one block. */
    private static final String CHAIN = "dir 0 1;dir 1 1;dir 2 1;dir 3 1;dir 4 1;dir 5 1;dir 6 1;dir 7 1;dir 8 1;dir 9 1;";

    private EdgeAsks() { }

    private static void noWhere(RolledBack x, String call, int... ahead) {
        int[] args = java.util.Arrays.copyOf(ahead, ahead.length + 1);
        for (int where : NO_WHERES) {
            args[ahead.length] = where;
            Due.call(x, ILLEGAL, call, args);
        }
        for (int where = 0; where < 2; where++) {
            args[ahead.length] = where;
            Due.equal(Due.told(call, args) + " answers", Due.answer(x, call, args).endsWith("Exception"), false);
        }
    }

    /** With the rest of what a call takes as it is, and wrong, for such a node comes first. */
    private static void noNode(RolledBack x, String call, int... behind) {
        for (int k = 0; k < 2; k++) {
            int[] args = new int[behind.length + 1];
            for (int j = 0; j < behind.length; j++) {
                args[j + 1] = k == 0 ? behind[j] : -99;
            }
            for (int node : NO_NODES) {
                args[0] = node;
                Due.call(x, NO_NODE, call, args);
            }
        }
    }

    private static void noBlock(String call, int... behind) {
        for (int size : new int[] {6, 16}) {
            RolledBack x = Due.made("size " + size + ";");
            int[] args = new int[behind.length + 1];
            System.arraycopy(behind, 0, args, 1, behind.length);
            for (int block : new int[] {-1, size, 16, 17, Integer.MIN_VALUE, Integer.MAX_VALUE}) {
                args[0] = block;
                Due.call(x, OUTSIDE, call, args);
            }
            for (int block : new int[] {0, size - 1}) {
                args[0] = block;
                Due.equal(Due.told(call, args) + " answers", Due.answer(x, call, args).endsWith("Exception"), false);
            }
        }
    }

    // ---- Terms, section 3

    @Says("Asked, nothing stays changed.")
    static void t3_askedNothingStaysChanged() {
        RolledBack x = Due.made("dir 0 1;make 1 2;grow 2 9;");
        Due.work(x, "make 0 3;grow 3 5;write 0;write 1;drop 1 2;write 5;make 0 4;make 0 4;", 7);
        Due.book(x, "0 0;", 1);
        Due.call(x, 1, "image");
        Due.fault(x, "work", "sync", -9, 4);
        Due.feed(x, "sync;");
        String before = Due.seen(x);
        String[] calls = {"fault", "rings", "settle", "fewest", "finds", "sweeps", "fits", "told 1", "used 1", "leaks 1", "lost 1",
            "broken 1", "spill 0", "spill 1", "look 0", "look 1", "held 4", "waits 4", "unlike 4", "room 0", "status 1", "count 1",
            "node 1 4 1", "find 1 2 1", "peek 4 0 1", "under 0 1", "deep 0 1", "change 0 5", "copy 4 0", "owner 5 1",
            "storm 7 96 3 2", "storm 8 96 0 0", "span 7 5 96 3 0 2"};
        for (int times = 0; times < 2; times++) {
            for (String call : calls) {
                String[] words = call.split(" ");
                int[] args = new int[words.length - 1];
                for (int k = 0; k < args.length; k++) {
                    args[k] = Integer.parseInt(words[k + 1]);
                }
                String first = Due.answer(x, words[0], args);
                Due.equal(call + ", again", Due.answer(x, words[0], args), first);
                Due.equal("what is seen behind " + call, Due.seen(x), before);
            }
        }
        Due.call(x, 1, "told", 7);
        Due.call(x, 1, "told", 8);
        Due.call(x, 4, "fault");
        Due.call(x, 1, "count", 0);
        Due.call(x, 20, "count", 1);
        Due.call(x, 1, "count", 2);
    }

    @Says("LEAKS: BLOCKS from 4 on that are USED, to which FIRST or SECOND of no REACHED NODE points.")
    static void t3_leaksFromFourOn() {
        RolledBack x = new RolledBack();
        // BLOCKS 0 to 3 are USED, and nothing points to them.
        Due.call(x, 0, "leaks", 0);
        Due.call(x, 0, "leaks", 1);
        x = Due.made("make 0 1;grow 1 5;grow 1 6;grow 0 0;");
        Due.call(x, 0, "leaks", 1);
        // A NODE that is not REACHED points to them, and has LINKS.
        Due.work(x, "drop 0 1;", 1);
        Due.call(x, 96, "leaks", 0);
        Due.call(x, 0, "leaks", 1);
        Due.call(x, 1, "node", 1, 0, 0);
        Due.call(x, 5, "node", 1, 2, 0);
        // Pointed to, but not USED, is none: FIRST can't be on DISK then; in MEMORY it is by no call.
        Inside.setByte(x, 0, 0, 5, 0);
        Due.call(x, 64, "leaks", 0);
        // BLOCK 4 and BLOCK 15.
        x = Due.made(CHAIN);
        Due.work(x, "grow 10 0;write 0;", 2);
        Due.call(x, 32768, "leaks", 1);
        Inside.setByte(x, 1, 1, 2, 0);
        Due.call(x, 65520, "leaks", 1);
    }

    @Says("LOST: NODES with LINKS that are not REACHED.")
    static void t3_lostWithLinksAlone() {
        RolledBack x = new RolledBack();
        Due.call(x, 0, "lost", 0);
        Due.work(x, "make 0 1;write 1;", 2);
        Due.call(x, 0, "lost", 0);
        Due.call(x, 2, "lost", 1);
        Due.work(x, "write 4;drop 0 1;", 2);
        Due.call(x, 2, "lost", 0);
        Due.call(x, 0, "lost", 1);
        // Without LINKS it is lost no more.
        Due.work(x, "write 4;", 1);
        Due.call(x, 0, "lost", 0);
        Due.call(x, 2, "lost", 1);
        // All but the root.
        x = Due.made(CHAIN + "make 10 1;");
        Inside.setByte(x, 1, 4, 0, 0);
        Due.call(x, 4094, "lost", 1);
        Due.call(x, 0, "lost", 0);
    }

    @Says("BROKEN: how many ENTRIES with a NAME, of REACHED directories, name a NODE without LINKS or TAG;")
    static void t3_brokenEntries() {
        RolledBack x = Due.made("dir 0 1;make 1 2;link 0 3 2;make 0 4;");
        Due.call(x, 0, "broken", 0);
        Inside.setByte(x, 0, 1, 8, 0);
        // NODE 2 has no LINKS, and is named twice.
        Due.call(x, 2, "broken", 0);
        Due.call(x, 0, "broken", 1);
        Inside.setByte(x, 0, 1, 8, 2);
        Inside.setByte(x, 0, 1, 9, 0);
        Due.call(x, 2, "broken", 0);
        // Neither LINKS nor TAG is no more than one of them.
        Inside.setByte(x, 0, 1, 8, 0);
        Due.call(x, 2, "broken", 0);
        // Without a NAME.
        Inside.setByte(x, 0, 4, 2, 0);
        Due.call(x, 1, "broken", 0);
        // Of a directory that is not REACHED.
        Inside.setByte(x, 0, 4, 0, 0);
        Due.call(x, 0, "broken", 0);
        // The root is REACHED, whatever else is not; an ENTRY of SECOND counts, too.
        x = Due.made("make 0 1;make 0 2;make 0 3;make 0 4;make 0 5;make 0 6;make 0 7;make 0 8;grow 0 0;make 0 9;");
        Inside.setByte(x, 1, 4, 0, 0);
        Inside.setByte(x, 1, 3, 4, 0);
        Due.call(x, 1, "broken", 1);
    }

    @Says({"how many of FIRST and SECOND, not 0, of NODES with LINKS point to a BLOCK that is not USED,",
        "or to one to which one ahead of them (by NODES, FIRST ahead of SECOND) points; all together."})
    static void t3_brokenPointers() {
        RolledBack x = Due.made("make 0 1;grow 1 5;grow 1 6;make 0 2;grow 2 7;grow 2 8;make 0 3;");
        for (int where = 0; where < 2; where++) {
            Due.call(x, 0, "broken", where);
            Inside.setByte(x, where, 0, 5, 0);
            Due.call(x, 1, "broken", where);
            Inside.setByte(x, where, 0, 8, 0);
            Due.call(x, 2, "broken", where);
            // NODE 2's FIRST where NODE 1's SECOND is, then NODE 1's FIRST, too.
            Inside.setByte(x, where, 1, 10, 6);
            Due.call(x, 3, "broken", where);
            Inside.setByte(x, where, 1, 6, 6);
            Due.call(x, 3, "broken", where);
            // Not USED, and another ahead of it: that is one, not two.
            Inside.setByte(x, where, 0, 6, 0);
            Due.call(x, 4, "broken", where);
            // Of a NODE without LINKS nothing counts, nor is it ahead of others; the ENTRY counts then.
            Inside.setByte(x, where, 1, 4, 0);
            Due.call(x, 3, "broken", where);
            // All together: another ENTRY, of a NODE without TAG.
            Inside.setByte(x, where, 1, 13, 0);
            Due.call(x, 4, "broken", where);
        }
    }

    @Says("or to one to which one ahead of them (by NODES, FIRST ahead of SECOND) points; all together.")
    static void t3_brokenPointersToOneAndTheSameBlock() {
        RolledBack x = Due.made("make 0 1;grow 1 5;grow 1 6;make 0 2;grow 2 7;");
        // The root's FIRST is ahead of all; others may stand between.
        Inside.setByte(x, 1, 1, 10, 4);
        Due.call(x, 1, "broken", 1);
        Inside.setByte(x, 1, 1, 10, 5);
        Due.call(x, 1, "broken", 1);
        Inside.setByte(x, 1, 1, 11, 5);
        Due.call(x, 2, "broken", 1);
        Due.call(x, 0, "broken", 0);
        Inside.setByte(x, 1, 0, 4, 0);
        Due.call(x, 3, "broken", 1);
    }

    /** So many changes, each in need of the one ahead of it, by turns in the last block and in the one ahead of that. */
    private static int ladder(RolledBack x, int many) {
        int k = -1;
        for (int i = 0; i < many; i++) {
            int block = i % 2 == 0 ? 15 : 14;
            k = k < 0 ? Inside.change(x, block, i / 2 % 16, 1 + i / 32) : Inside.change(x, block, i / 2 % 16, 1 + i / 32, k);
        }
        return k;
    }

    @Says("SETTLE: sync, again and again, until no BLOCK is DIRTY: how many writes.")
    static void t3_settleOfNoneAndOfMore() {
        RolledBack x = Due.made("make 0 1;");
        Due.call(x, 0, "settle");
        // 0, 1 (FIRST stays), 5; then 1.
        Due.work(x, "grow 1 5;", 1);
        Due.call(x, 4, "settle");
        Due.work(x, "sync;", 1);
        Due.call(x, 1, "settle");
        Due.work(x, "sync;", 1);
        Due.call(x, 0, "settle");
        // What is put off is done, and written, too: 4; 1; 0.
        Due.work(x, "drop 0 1;", 1);
        Due.call(x, 3, "settle");
        // By a ladder, each sync brings one change of either block to DISK.
        x = new RolledBack();
        ladder(x, 10);
        Due.call(x, 11, "settle");
    }

    @Says("SPILL: the most LEAKS that DISK has, as it is now, or behind any of these writes (however many they are).")
    static void t3_spillNowAndBehindManyWrites() {
        RolledBack x = new RolledBack();
        Due.call(x, 0, "spill", 0);
        Due.work(x, "make 0 1;grow 1 5;grow 1 6;", 3);
        Due.call(x, 2, "spill", 0);
        Due.work(x, "write 0;", 1);
        Due.call(x, 2, "spill", 0);
        Due.work(x, "sync;sync;", 2);
        Due.call(x, 0, "spill", 0);
        // Behind more writes than 200: the MAP's byte stays to the last.
        x = new RolledBack();
        Inside.change(x, 0, 9, 1, ladder(x, 200));
        Due.call(x, 1, "spill", 0);
        Due.call(x, 303, "spill", 1);
        Due.call(x, -1, "settle");
    }

    @Says("FEWEST: by how few writes, of whichever BLOCKS, nothing is DIRTY any more; NONE: by more than 4.")
    static void t3_fewestOfFourAndOfFive() {
        RolledBack x = Due.made("make 0 1;");
        // By numbers it would be four.
        Due.work(x, "grow 1 5;", 1);
        Due.call(x, 4, "settle");
        Due.call(x, 3, "fewest");
        Due.work(x, "make 0 2;", 1);
        Due.call(x, 4, "fewest");
        Due.work(x, "grow 1 6;", 1);
        Due.call(x, -1, "fewest");
        Due.work(x, "write 6;", 1);
        Due.call(x, 4, "fewest");
        // Fewer blocks than writes: 4, then 1, then 0; with a file's byte, 5, too.
        x = Due.made("make 0 1;grow 1 5;dir 0 2;make 2 3;grow 3 6;");
        Due.work(x, "drop 0 1;", 1);
        Due.call(x, 16, "told", 3);
        Due.call(x, 3, "fewest");
        Due.work(x, "put 3 0 1;", 1);
        Due.call(x, 4, "fewest");
        Due.work(x, "drop 2 3;", 1);
        Due.call(x, -1, "fewest");
    }

    @Says("BLOCKS WAIT for others of which an UNSAFE CHANGE is NEEDED by one of theirs.")
    static void t3_waitsForOthersAlone() {
        RolledBack x = new RolledBack();
        Due.call(x, 0, "waits", 4);
        // NAME needs NODE, too, but that is of its own block.
        Due.work(x, "make 0 1;", 1);
        Due.call(x, 2, "waits", 4);
        Due.call(x, 0, "waits", 1);
        // Not UNSAFE any more.
        Due.work(x, "write 1;", 1);
        Due.call(x, 0, "waits", 4);
        // By the order of its bytes a block waits for none.
        Due.work(x, "drop 0 1;make 0 2;", 2);
        Due.call(x, 2, "waits", 4);
        Due.call(x, 0, "waits", 0);
    }

    @Says("FITS by BOOK: DIRTY BLOCKS by which, were they written now, all lines were right of that BLOCK on DISK.")
    static void t3_fitsWithoutLinesAndByTheCopy() {
        RolledBack x = Due.made("make 0 1;grow 1 9;");
        // Not DIRTY.
        Due.call(x, 0, "fits");
        Due.work(x, "make 0 7;put 1 15 3;", 2);
        // Without lines, all that are DIRTY.
        Due.call(x, 50, "fits");
        // NAME 7 is rolled back in the copy, NODE is not.
        Due.book(x, "2 7;", 1);
        Due.call(x, 0, "fits");
        Due.book(x, "2 0;3 2;", 2);
        Due.call(x, 16, "fits");
        // The first and the last place; all lines must be right.
        Due.book(x, "0 9;15 3;", 2);
        Due.call(x, 32, "fits");
        Due.book(x, "0 9;15 9;", 2);
        Due.call(x, 0, "fits");
        Due.book(x, "15 0;", 1);
        Due.call(x, 18, "fits");
        // The MAP, too.
        x = Due.made("make 0 1;");
        Due.work(x, "grow 1 5;", 1);
        Due.call(x, 35, "fits");
        Due.book(x, "0 1;", 1);
        Due.call(x, 3, "fits");
        Due.book(x, "1 1;", 1);
        Due.call(x, 1, "fits");
    }

    @Says({"LOOK: the place in no line by which, whatever is there, fewest of FITS are left at the worst",
        "(0, if nothing FITS), of these the first."})
    static void t3_lookOfNothingOfOneAndOfMore() {
        RolledBack x = Due.made("make 0 1;grow 1 9;");
        Due.call(x, 0, "look", 0);
        Due.call(x, 0, "look", 1);
        Due.book(x, "0 1;1 1;", 2);
        Due.call(x, 2, "look", 0);
        Due.call(x, 0, "look", 1);
        Due.book(x, "", 0);
        Due.work(x, "put 1 15 3;", 1);
        Due.call(x, 0, "look", 0);
        Due.call(x, 1, "look", 1);
        // BLOCK 1: 1 2 4 0 1 1 5 0 1 1 0.., BLOCK 4: 1 1 0 2 0.., BLOCK 5: 9.. 3. At 0 two of three are alike, at 1 none.
        Due.work(x, "make 0 7;", 1);
        Due.call(x, 1, "look", 0);
        Due.call(x, 1, "look", 1);
        // BLOCK 5 does not fit: of the other two, place 0 is alike and in the line.
        Due.book(x, "0 1;", 1);
        Due.call(x, 18, "fits");
        Due.call(x, 1, "look", 0);
        Due.book(x, "0 1;1 2;", 2);
        Due.call(x, 2, "look", 0);
        Due.call(x, 1, "look", 1);
        // All alike at the places left: they differ nowhere in 10 to 15.
        Due.book(x, "15 0;10 0;11 0;12 0;13 0;14 0;", 6);
        Due.call(x, 18, "fits");
        Due.call(x, 1, "look", 0);
        // One alone FITS: what does not is not left, though it is alike at place 0.
        Due.book(x, "1 2;", 1);
        Due.call(x, 2, "fits");
        Due.call(x, 0, "look", 0);
        Due.call(x, 1, "look", 1);
        // The MAP is alike BLOCK 1 at place 0, and not at place 1.
        x = Due.made("make 0 1;");
        Due.work(x, "grow 1 5;", 1);
        Due.book(x, "15 0;", 1);
        Due.call(x, 3, "fits");
        Due.call(x, 1, "look", 0);
        Due.call(x, 1, "look", 1);
    }

    // ---- Promise 8

    @Says({"0 BLOCKS, 1 CHANGES that are UNSAFE, 2 how many things are put off, 3 BLOCKS that are DIRTY (bits),",
        "9 CHANGES made by now."})
    static void p08_toldOfNothingAndOfMuch() {
        RolledBack x = Due.made("size 6;make 0 1;grow 1 5;");
        int[] none = {6, 0, 0, 0, 0, 0, 0, 0, 0, 0};
        for (int what = 0; what < 10; what++) {
            Due.call(x, none[what], "told", what);
        }
        Due.work(x, "put 1 0 5;cut 1;make 0 2;drop 0 1;", 3);
        int[] some = {6, 6, 2, 18, 0, 0, 0, 0, 1, 6};
        for (int what = 0; what < 10; what++) {
            Due.call(x, some[what], "told", what);
        }
        // What comes to DISK was made all the same; and what a write brings is made, too.
        Due.work(x, "write 1;", 1);
        Due.call(x, 7, "told", 9);
        x.undo();
        Due.call(x, 6, "told", 9);
        // BLOCK 0 is the lowest bit, BLOCK 15 the highest of 16.
        x = Due.made(CHAIN);
        Due.work(x, "grow 10 0;", 1);
        Due.call(x, 9, "told", 3);
        Inside.change(x, 15, 0, 1);
        Due.call(x, 32777, "told", 3);
    }

    @Says({"4 writes by now (of sync each one), 5 how many CHANGES were HELD BACK by these (one each time), 6 crashes by now,"})
    static void p08_toldOfWritesAndCrashes() {
        RolledBack x = new RolledBack();
        Due.work(x, "make 0 7;write 4;write 4;write 4;write 9;", 4);
        Due.call(x, 3, "told", 4);
        Due.call(x, 3, "told", 5);
        Due.work(x, "sync;", 1);
        Due.call(x, 5, "told", 4);
        Due.call(x, 3, "told", 5);
        Due.work(x, "sync;crash;crash;", 2);
        Due.call(x, 5, "told", 4);
        Due.call(x, 2, "told", 6);
        // Held back by a sync, too.
        Due.work(x, "grow 1 5;sync;", 2);
        Due.call(x, 8, "told", 4);
        Due.call(x, 4, "told", 5);
    }

    @Says({"7 lines of the BOOK, 8 STEPS REFUSED by the latest WORK",
        "(0 ahead of any, behind store() without a FAULT, undo(), restore(); a FAULT, -20, -1 leave it),"})
    static void p08_toldOfRefusedStepsAndWhatLeavesThem() {
        RolledBack x = new RolledBack();
        Due.call(x, 0, "told", 8);
        Due.work(x, "sync;sync;sync;", 0);
        Due.call(x, 3, "told", 8);
        // Of the latest alone.
        Due.work(x, "sync;crash;", 1);
        Due.call(x, 1, "told", 8);
        Due.work(x, "crash;", 1);
        Due.call(x, 0, "told", 8);
        Due.work(x, "sync;sync;", 0);
        Due.fault(x, "work", "sync;sync", -9, 9);
        Due.fault(x, "store", "size 5;", -8, 5);
        Due.fault(x, "book", "x", -9, 0);
        Due.book(x, "0 0;7 7;", 2);
        Due.call(x, 2, "told", 7);
        Due.call(x, ILLEGAL, "work", 1);
        Due.call(x, -1, "restore");
        Due.call(x, 1, "image");
        Due.call(x, 2, "image");
        Due.call(x, 3, "image");
        Due.call(x, -1, "image");
        Due.call(x, 2, "told", 8);
        Due.call(x, 2, "restore");
        Due.call(x, 0, "told", 8);
        Due.work(x, "sync;", 0);
        Due.call(x, 4, "undo");
        Due.call(x, 0, "told", 8);
        for (int k = 4; k < 16; k++) {
            Due.work(x, "sync;sync;sync;sync;", 0);
        }
        Due.work(x, "sync;", -20);
        Due.call(x, 4, "told", 8);
        Due.store(x, "", 16);
        Due.call(x, 0, "told", 8);
        // Where undo() answers -1, it is 0 already, and stays so.
        Due.work(x, "sync;", 0);
        Due.call(x, 0, "undo");
        Due.call(x, -1, "undo");
        Due.call(x, 0, "told", 8);
    }

    @Says("IllegalArgumentException: another what (so below).")
    static void p08_anotherWhat() {
        RolledBack x = new RolledBack();
        for (int what : new int[] {-1, 10, Integer.MIN_VALUE, Integer.MAX_VALUE}) {
            Due.call(x, ILLEGAL, "told", what);
        }
        for (int wrong : new int[] {-1, Integer.MIN_VALUE, Integer.MAX_VALUE}) {
            Due.call(x, ILLEGAL, "node", 0, wrong, 0);
            Due.call(x, ILLEGAL, "change", 0, wrong);
            Due.call(x, ILLEGAL, "spill", wrong);
            Due.call(x, ILLEGAL, "look", wrong);
            Due.call(x, ILLEGAL, "storm", 0, 1, 0, wrong);
            Due.call(x, ILLEGAL, "span", 0, 1, 1, 0, wrong, 0);
        }
        Due.call(x, ILLEGAL, "node", 0, 5, 0);
        Due.call(x, ILLEGAL, "change", 0, 6);
        Due.call(x, ILLEGAL, "spill", 2);
        Due.call(x, ILLEGAL, "look", 2);
        Due.call(x, ILLEGAL, "storm", 0, 1, 0, 4);
        Due.call(x, ILLEGAL, "span", 0, 1, 1, 0, 3, 0);
        Due.call(x, 28, "status", 1);
    }

    // ---- Promises 9 to 17

    @Says({"A byte of a BLOCK in MEMORY (where 0), on DISK (1).", "IllegalArgumentException: another where (so below);"})
    static void p09_anotherWhere() {
        RolledBack x = Due.made("make 0 1;grow 1 5;");
        Due.work(x, "put 1 15 99;", 1);
        Due.call(x, 99, "peek", 5, 15, 0);
        Due.call(x, 5, "peek", 5, 15, 1);
        noWhere(x, "peek", 5, 15);
        noWhere(x, "node", 0, 4);
        noWhere(x, "find", 0, 1);
        noWhere(x, "used");
        noWhere(x, "leaks");
        noWhere(x, "lost");
        noWhere(x, "broken");
        noWhere(x, "under", 0);
        noWhere(x, "deep", 0);
        noWhere(x, "owner", 0);
        Due.call(x, 40, "status", 1);
        Due.call(x, 0, "status", 3);
    }

    @Says("IndexOutOfBoundsException: no such BLOCK (below the size), or place (0 to 15).")
    static void p09_noSuchBlockOrPlace() {
        noBlock("peek", 0, 0);
        noBlock("peek", 15, 1);
        RolledBack x = new RolledBack();
        for (int place : new int[] {-1, 16, Integer.MIN_VALUE, Integer.MAX_VALUE}) {
            Due.call(x, OUTSIDE, "peek", 0, place, 0);
            Due.call(x, OUTSIDE, "peek", 15, place, 1);
        }
        Due.call(x, 8, "status", 3);
    }

    @Says("Of a NODE (0 to 11): 0 LINKS, 1 TAG, 2 FIRST, 3 SECOND, 4 1 it is REACHED, 0 not.")
    static void p10_theFirstAndTheLastNode() {
        RolledBack x = Due.made("grow 0 0;" + CHAIN.replace("dir 9 1;", "") + "make 9 1;make 9 2;grow 11 7;");
        int[] root = {1, 2, 4, 5, 1};
        int[] last = {1, 1, 15, 0, 1};
        for (int what = 0; what < 5; what++) {
            for (int where = 0; where < 2; where++) {
                Due.call(x, root[what], "node", 0, what, where);
                Due.call(x, last[what], "node", 11, what, where);
            }
        }
        Due.work(x, "drop 9 2;", 1);
        Due.call(x, 0, "node", 11, 4, 0);
        Due.call(x, 1, "node", 11, 4, 1);
        x = new RolledBack();
        for (int what = 0; what < 5; what++) {
            Due.call(x, 0, "node", 11, what, 1);
        }
    }

    @Says("NoSuchElementException: no such NODE (so below, ahead of others).")
    static void p10_noSuchNodeAheadOfOthers() {
        RolledBack x = new RolledBack();
        noNode(x, "node", 0, 0);
        noNode(x, "find", 1, 0);
        noNode(x, "under", 0);
        noNode(x, "deep", 0);
        noNode(x, "room");
        Due.call(x, 40, "status", 0);
        Due.call(x, 0, "status", 1);
    }

    @Says({"The NODE that the ENTRY of a NAME (1 to 99) of a directory names;"})
    static void p11_theFirstAndTheLastName() {
        RolledBack x = Due.made("make 0 1;make 0 99;");
        Due.call(x, 1, "find", 0, 1, 0);
        Due.call(x, 2, "find", 0, 99, 1);
        for (int name : new int[] {0, -1, 100, 256, Integer.MIN_VALUE, Integer.MAX_VALUE}) {
            Due.call(x, ILLEGAL, "find", 0, name, 0);
            Due.call(x, ILLEGAL, "find", 5, name, 1);
        }
        // The last ENTRY of SECOND.
        x = Due.made("grow 0 0;make 0 1;link 0 2 1;link 0 3 1;link 0 4 1;link 0 5 1;link 0 6 1;link 0 7 1;link 0 8 1;link 0 9 1;"
            + "make 0 10;link 0 11 2;link 0 12 2;link 0 13 2;link 0 14 2;link 0 15 2;make 0 16;");
        Due.call(x, 3, "find", 0, 16, 1);
        Due.call(x, 1, "find", 0, 9, 1);
    }

    @Says("NONE: it is no directory with LINKS, or has no such ENTRY.")
    static void p11_noDirectoryOrNoSuchEntry() {
        RolledBack x = Due.made("dir 0 1;make 1 2;make 0 3;grow 3 2;");
        Due.call(x, -1, "find", 0, 2, 0);
        Due.call(x, -1, "find", 3, 2, 0);
        Due.call(x, -1, "find", 4, 2, 0);
        Due.call(x, -1, "find", 11, 2, 1);
        Due.work(x, "drop 1 2;drop 0 1;", 2);
        Due.call(x, -1, "find", 1, 2, 0);
        Due.call(x, 2, "find", 1, 2, 1);
        // On DISK it has its ENTRY, but is not REACHED: it is a directory with LINKS.
        Due.work(x, "write 4;crash;", 2);
        Due.call(x, 2, "find", 1, 2, 0);
        Due.work(x, "sweep;", 1);
        Due.call(x, -1, "find", 1, 2, 0);
    }

    @Says("BLOCKS that are USED (bits).")
    static void p12_usedOfFewAndOfAll() {
        RolledBack x = Due.made("size 6;");
        Due.call(x, 31, "used", 0);
        Due.work(x, "dir 0 1;", 1);
        Due.call(x, 63, "used", 0);
        Due.call(x, 31, "used", 1);
        x = Due.made(CHAIN);
        Due.call(x, 32767, "used", 1);
        Due.work(x, "grow 10 0;", 1);
        Due.call(x, 65535, "used", 0);
    }

    @Says("LEAKS (bits).")
    static void p13_leaksOfNoneAndOfMore() {
        RolledBack x = new RolledBack();
        Due.call(x, 0, "leaks", 0);
        Due.work(x, "make 0 1;grow 1 5;grow 1 6;write 0;", 4);
        Due.call(x, 0, "leaks", 0);
        Due.call(x, 96, "leaks", 1);
        Due.work(x, "crash;", 1);
        Due.call(x, 96, "leaks", 0);
    }

    @Says("LOST (bits of NODES).")
    static void p14_lostOfNoneAndOfTheLastNode() {
        RolledBack x = Due.made(CHAIN);
        Due.call(x, 0, "lost", 1);
        Due.work(x, "make 10 5;write 3;", 2);
        Due.call(x, 2048, "lost", 1);
        Due.call(x, 0, "lost", 0);
        Due.work(x, "crash;", 1);
        Due.call(x, 2048, "lost", 0);
    }

    @Says("BROKEN (of DISK: 0).")
    static void p15_ofDiskItIsNoneBehindAnyWrites() {
        RolledBack x = Due.made("dir 0 1;make 1 2;grow 2 9;make 0 3;grow 3 8;");
        for (int k = 0; k < 64; k++) {
            String first = "write " + k % 8 + ";";
            String text = "cut 2;make 1 5;grow 4 3;drop 1 2;dir 0 6;drop 0 3;" + first + "write " + k / 8
                + ";make 0 7;grow 6 1;" + first;
            Due.feed(x, text);
            Due.equal("steps done of '" + text + "'", x.work(text.length()) >= 7, true);
            Due.call(x, 0, "broken", 1);
            Due.work(x, "crash;", 1);
            Due.call(x, 0, "broken", 0);
            x.undo();
            x.undo();
        }
    }

    @Says({"How many NODES are REACHED through a directory, ENTRY by ENTRY, one as often as it is named",
        "(0: it is no directory with LINKS, or it is empty)."})
    static void p16_underWhatIsNoneEmptyFullAndDeep() {
        RolledBack x = new RolledBack();
        Due.call(x, 0, "under", 0, 0);
        Due.call(x, 0, "under", 1, 0);
        Due.call(x, 0, "under", 11, 1);
        x = Due.made("dir 0 1;dir 1 2;make 2 3;link 2 4 3;link 0 5 3;grow 3 7;");
        Due.call(x, 5, "under", 0, 1);
        Due.call(x, 3, "under", 1, 1);
        Due.call(x, 2, "under", 2, 1);
        Due.call(x, 0, "under", 3, 1);
        Due.work(x, "drop 2 3;", 1);
        Due.call(x, 4, "under", 0, 0);
        Due.call(x, 5, "under", 0, 1);
        x = Due.made(CHAIN + "make 10 1;");
        for (int node = 0; node < 12; node++) {
            Due.call(x, 11 - node, "under", node, 0);
        }
        x = Due.made("grow 0 0;make 0 1;link 0 2 1;link 0 3 1;link 0 4 1;link 0 5 1;link 0 6 1;link 0 7 1;link 0 8 1;link 0 9 1;"
            + "make 0 10;link 0 11 2;link 0 12 2;link 0 13 2;link 0 14 2;link 0 15 2;make 0 16;");
        Due.call(x, 16, "under", 0, 1);
    }

    @Says("one as often as it is named")
    static void p16_underLostDirectoriesThatNameOneAnotherManyTimes() {
        RolledBack x = new RolledBack();
        Due.lostDirectories(x, 10, 7);
        Due.call(x, 0b111111111100, "lost", 1);
        long begin = System.nanoTime();
        for (int where = 0; where < 2; where++) {
            int under = 0;
            for (int node = 2; node < 12; node++) {
                under = 7 * (1 + under);
                Due.call(x, under, "under", node, where);
                Due.call(x, node - 1, "deep", node, where);
            }
            Due.call(x, 329554456, "under", 11, where);
        }
        // Walked name by name, these are 300 million steps a call; so that each call ends, none may be taken twice.
        Due.equal("under and deep end soon", (System.nanoTime() - begin) / 1_000_000_000 < 5, true);
    }

    @Says({"How deep directories lie in a directory: 0 no directory with LINKS, 1 none in it, 2 such a one in it, and so on."})
    static void p17_deepOfNoneOfOneAndOfAll() {
        RolledBack x = new RolledBack();
        Due.call(x, 1, "deep", 0, 0);
        Due.call(x, 0, "deep", 1, 0);
        Due.call(x, 0, "deep", 11, 1);
        Due.store(x, "make 0 1;", 16);
        Due.call(x, 1, "deep", 0, 1);
        Due.call(x, 0, "deep", 1, 1);
        // The deepest counts, not the last.
        Due.store(x, "dir 0 1;dir 1 1;dir 0 2;make 0 3;", 16);
        Due.call(x, 3, "deep", 0, 1);
        Due.call(x, 2, "deep", 1, 1);
        Due.call(x, 1, "deep", 3, 1);
        x = Due.made(CHAIN + "dir 10 1;");
        for (int node = 0; node < 12; node++) {
            Due.call(x, 12 - node, "deep", node, 1);
        }
        Due.work(x, "drop 10 1;", 1);
        Due.call(x, 11, "deep", 0, 0);
        Due.call(x, 12, "deep", 0, 1);
        // In the last ENTRY of SECOND.
        x = Due.made("grow 0 0;make 0 1;link 0 2 1;link 0 3 1;link 0 4 1;link 0 5 1;link 0 6 1;link 0 7 1;link 0 8 1;link 0 9 1;"
            + "make 0 10;link 0 11 2;link 0 12 2;link 0 13 2;link 0 14 2;link 0 15 2;dir 0 16;");
        Due.call(x, 2, "deep", 0, 1);
    }

    // ---- Promise 18

    @Says("(IllegalArgumentException ahead of the others.)")
    static void p18_anotherWhatAheadOfAll() {
        RolledBack x = new RolledBack();
        Due.call(x, ILLEGAL, "change", -1, 6);
        Due.call(x, ILLEGAL, "change", 256, -1);
        Due.call(x, ILLEGAL, "change", 0, 6);
        Due.call(x, ILLEGAL, "change", Integer.MAX_VALUE, Integer.MIN_VALUE);
        Due.call(x, 4, "status", 1);
        Due.call(x, 0, "status", 2);
        Due.call(x, 0, "status", 3);
    }

    @Says({"Of the k-th UNSAFE CHANGE (from 0 on, as they were made): 0 its BLOCK, 1 its place (16: a WIPE),",
        "2 what was there (of a WIPE: at place 0), 3 what it puts, 4 how many UNSAFE ones it NEEDS,"})
    static void p18_theFirstAndTheLastChange() {
        RolledBack x = Due.made("make 0 1;grow 1 9;put 1 0 7;grow 1 8;put 1 31 6;");
        Due.work(x, "put 1 31 5;cut 1;cut 1;write 1;write 0;grow 1 4;", 6);
        int[][] want = {{6, 15, 6, 5, 0}, {0, 5, 0, 1, 0}, {5, 16, 7, 4, 0}, {1, 6, 0, 5, 2}};
        for (int k = 0; k < want.length; k++) {
            for (int what = 0; what < 5; what++) {
                Due.call(x, want[k][what], "change", k, what);
            }
        }
        // They close ranks when one comes to DISK.
        Due.work(x, "write 6;write 5;", 2);
        Due.call(x, 0, "change", 0, 0);
        Due.call(x, 1, "change", 1, 0);
        Due.call(x, 1, "change", 1, 4);
    }

    @Says("5 1 it would GO by a write of its BLOCK now, 0 it would be HELD BACK.")
    static void p18_itWouldGoOrBeHeldBack() {
        RolledBack x = new RolledBack();
        Due.work(x, "make 0 7;", 1);
        Due.call(x, 1, "change", 0, 5);
        Due.call(x, 0, "change", 3, 5);
        Due.work(x, "write 4;", 1);
        Due.call(x, 0, "change", 2, 5);
        Due.work(x, "write 1;", 1);
        Due.call(x, 1, "change", 0, 5);
    }

    @Says({"IndexOutOfBoundsException: k is not 0 to 255;", "NullPointerException: there are not so many."})
    static void p18_noSuchChange() {
        RolledBack x = new RolledBack();
        for (int k : new int[] {-1, 256, Integer.MIN_VALUE, Integer.MAX_VALUE}) {
            Due.call(x, OUTSIDE, "change", k, 0);
        }
        Due.call(x, "NullPointerException", "change", 0, 0);
        Due.call(x, "NullPointerException", "change", 255, 5);
        Due.work(x, "make 0 7;", 1);
        Due.call(x, 4, "change", 3, 0);
        Due.call(x, "NullPointerException", "change", 4, 0);
        Due.call(x, "NullPointerException", "change", 255, 0);
        Due.call(x, OUTSIDE, "change", 256, 0);
        Due.call(x, OUTSIDE, "change", -1, 0);
        Due.call(x, 4, "status", 2);
        Due.call(x, 6, "status", 3);
    }

    // ---- Promises 19 to 25

    @Says("How many CHANGES would be HELD BACK by a write of a BLOCK now.")
    static void p19_heldOfNoneAndOfAll() {
        RolledBack x = new RolledBack();
        for (int block = 0; block < 16; block++) {
            Due.call(x, 0, "held", block);
        }
        Due.work(x, "make 0 7;drop 0 7;make 0 8;", 3);
        Due.call(x, 4, "held", 4);
        Due.work(x, "write 4;", 1);
        // All of it is.
        Due.call(x, 4, "held", 4);
        Due.call(x, 0, "held", 1);
        Due.work(x, "write 1;", 1);
        Due.call(x, 0, "held", 4);
    }

    @Says("IndexOutOfBoundsException: no such BLOCK (so below).")
    static void p19_noSuchBlock() {
        noBlock("held");
        noBlock("waits");
        noBlock("unlike");
        noBlock("owner", 0);
        noBlock("owner", 1);
    }

    @Says("What would be at a place of a BLOCK on DISK behind a write of it now (DIRTY or not).")
    static void p20_copyOfWhatIsDirtyOrNot() {
        RolledBack x = Due.made("make 0 1;grow 1 9;");
        Due.call(x, 1, "copy", 0, 5);
        Due.call(x, 9, "copy", 5, 15);
        Due.call(x, 0, "copy", 15, 15);
        Due.work(x, "put 1 15 8;make 0 7;", 2);
        Due.call(x, 8, "copy", 5, 15);
        Due.call(x, 9, "peek", 5, 15, 1);
        // NODE goes, NAME is rolled back.
        Due.call(x, 0, "copy", 4, 2);
        Due.call(x, 2, "copy", 4, 3);
        Due.call(x, 1, "copy", 4, 0);
    }

    @Says("IndexOutOfBoundsException: no such BLOCK or place.")
    static void p20_noSuchBlockOrPlace() {
        noBlock("copy", 0);
        noBlock("copy", 15);
        RolledBack x = new RolledBack();
        for (int place : new int[] {-1, 16, Integer.MIN_VALUE, Integer.MAX_VALUE}) {
            Due.call(x, OUTSIDE, "copy", 0, place);
        }
        Due.call(x, 4, "status", 3);
    }

    @Says("BLOCKS (bits) for which a BLOCK WAITS.")
    static void p21_waitsForNoneForTheFirstAndForTheLast() {
        RolledBack x = new RolledBack();
        for (int block = 0; block < 16; block++) {
            Due.call(x, 0, "waits", block);
        }
        x = Due.made(CHAIN.replace("dir 9 1;", "") + "make 0 9;grow 10 5;");
        // NODE 10 is in BLOCK 3: it waits for the MAP and for BLOCK 15.
        Due.work(x, "grow 10 7;", 1);
        Due.call(x, 32769, "waits", 3);
        Due.call(x, 0, "waits", 15);
        Due.call(x, 0, "waits", 0);
        Due.work(x, "write 0;", 1);
        Due.call(x, 32768, "waits", 3);
        Due.work(x, "write 15;", 1);
        Due.call(x, 0, "waits", 3);
    }

    @Says("How many twos of BLOCKS WAIT for each other.")
    static void p22_ringsOfNoneOfOneAndOfTwo() {
        RolledBack x = new RolledBack();
        Due.call(x, 0, "rings");
        // One way is no ring.
        Due.work(x, "make 0 7;grow 1 5;", 2);
        Due.call(x, 0, "rings");
        x = Due.made("make 0 1;link 0 2 1;link 0 3 1;link 0 4 1;link 0 5 1;link 0 6 1;link 0 7 1;dir 0 8;grow 1 9;grow 1 9;");
        // The root's SECOND takes BLOCK 6, which names NODES of BLOCK 1 then.
        Due.work(x, "cut 1;cut 1;write 1;write 0;grow 0 0;make 0 9;", 6);
        Due.call(x, 1, "rings");
        x.undo();
        Due.work(x, "cut 1;cut 1;write 1;write 0;grow 0 0;dir 0 9;link 3 1 1;", 7);
        Due.call(x, 2, "rings");
        Due.work(x, "sync;", 1);
        Due.call(x, 0, "rings");
    }

    @Says("SETTLE; NONE: more than 200.")
    static void p23_twoHundredWritesAndOneMore() {
        RolledBack x = new RolledBack();
        Due.call(x, 0, "settle");
        // Each sync writes both blocks of a ladder, and brings one change of either to DISK.
        ladder(x, 199);
        Due.call(x, 200, "settle");
        x = new RolledBack();
        ladder(x, 200);
        Due.call(x, -1, "settle");
    }

    @Says("SPILL: 0 how many, 1 behind how many writes first (0: now).")
    static void p24_spillNowAndFirst() {
        RolledBack x = new RolledBack();
        Due.call(x, 0, "spill", 0);
        Due.call(x, 0, "spill", 1);
        Due.work(x, "make 0 1;grow 1 5;grow 1 6;", 3);
        // Behind the first; later ones have as many.
        Due.call(x, 2, "spill", 0);
        Due.call(x, 1, "spill", 1);
        Due.work(x, "write 0;", 1);
        Due.call(x, 2, "spill", 0);
        Due.call(x, 0, "spill", 1);
        // By block 0 one leaks, by block 4 two do.
        x = Due.made("make 0 1;grow 1 5;make 0 2;");
        Due.work(x, "drop 0 1;grow 2 7;", 2);
        Due.call(x, 2, "spill", 0);
        Due.call(x, 3, "spill", 1);
        Due.call(x, ILLEGAL, "spill", 2);
        Due.call(x, ILLEGAL, "spill", -1);
    }

    @Says("FEWEST (0: nothing is DIRTY).")
    static void p25_fewestOfNoneAndOfOne() {
        RolledBack x = Due.made("make 0 1;grow 1 5;");
        Due.call(x, 0, "fewest");
        Due.work(x, "put 1 0 1;put 1 0 5;", 2);
        Due.call(x, 1, "fewest");
        Due.work(x, "write 5;make 0 2;", 2);
        Due.call(x, 2, "fewest");
        Due.work(x, "crash;", 1);
        Due.call(x, 0, "fewest");
    }

    // ---- Promises 26 to 32

    @Says("What sweep would find: 0 to 11 a NODE, 100 and more a BLOCK (100 less); NONE: nothing.")
    static void p26_theLastNodeAndTheLastBlock() {
        RolledBack x = new RolledBack();
        Due.call(x, -1, "finds");
        x = Due.made(CHAIN);
        Due.work(x, "make 10 1;write 3;crash;", 3);
        Due.call(x, 11, "finds");
        Due.work(x, "grow 10 0;write 0;crash;", 3);
        Due.call(x, 11, "finds");
        Due.work(x, "sweep;", 1);
        Due.call(x, 115, "finds");
        Due.work(x, "sweep;", 1);
        Due.call(x, -1, "finds");
    }

    @Says("How many sweeps can be done one behind the other, were it crashed now, all being written behind each (as by SETTLE).")
    static void p27_sweepsOfNoneAndOfMore() {
        RolledBack x = new RolledBack();
        Due.call(x, 0, "sweeps");
        Due.work(x, "make 0 1;grow 1 5;", 2);
        // A crash would leave nothing behind.
        Due.call(x, 0, "sweeps");
        Due.work(x, "write 0;", 1);
        Due.call(x, 1, "sweeps");
        Due.work(x, "write 1;", 1);
        Due.call(x, 2, "sweeps");
        // By now FIRST is on DISK, too: BLOCK 5 is freed behind NODE 1's sweep.
        Due.work(x, "write 5;write 1;", 2);
        Due.call(x, 1, "sweeps");
        Due.call(x, -1, "finds");
        Due.work(x, "write 4;", 1);
        Due.call(x, 0, "sweeps");
        // A directory that is lost, and what it names: one by one.
        x = Due.made("dir 0 1;make 1 1;dir 1 2;make 3 1;");
        Due.work(x, "drop 3 1;drop 1 2;drop 1 1;drop 0 1;write 4;", 5);
        Due.call(x, 4, "sweeps");
        Due.call(x, 0, "told", 6);
    }

    @Says("FITS, as bits of BLOCKS.")
    static void p28_fitsOfNoneAndOfTheLast() {
        RolledBack x = new RolledBack();
        Due.call(x, 0, "fits");
        x = Due.made(CHAIN.replace("dir 9 1;", "") + "make 0 9;grow 10 5;grow 10 6;");
        Due.work(x, "put 10 31 9;", 1);
        Due.call(x, 32768, "fits");
        Due.book(x, "15 9;", 1);
        Due.call(x, 32768, "fits");
        Due.book(x, "15 6;", 1);
        Due.call(x, 0, "fits");
    }

    @Says("LOOK: 0 the place, 1 how many are left at the worst; NONE both: all places are in lines.")
    static void p29_allPlacesInLinesAndAllButOne() {
        RolledBack x = Due.made("make 0 1;grow 1 9;");
        Due.work(x, "put 1 15 3;", 1);
        // No BOOK of 60 bytes has so many lines: fourteen is the most.
        for (int place = 0; place < 15; place++) {
            Inside.line(x, place, 9);
        }
        Due.call(x, 15, "look", 0);
        Due.call(x, 1, "look", 1);
        Inside.line(x, 15, 3);
        Due.call(x, 32, "fits");
        Due.call(x, -1, "look", 0);
        Due.call(x, -1, "look", 1);
        Inside.line(x, 15, 4);
        Due.call(x, -1, "look", 0);
        Due.call(x, -1, "look", 1);
        // Fourteen by a text.
        x = Due.made("make 0 1;grow 1 9;");
        Due.work(x, "put 1 15 3;", 1);
        Due.book(x, "0 9;1 9;2 9;3 9;4 9;5 9;6 9;7 9;8 9;9 9;10 9;11 9;12 9;14 9;", 14);
        Due.call(x, 13, "look", 0);
        Due.call(x, 1, "look", 1);
    }

    @Says("How many ENTRIES of a directory are free (0: it is no directory with LINKS).")
    static void p30_roomOfNoneOfAllAndOfWhatIsNoDirectory() {
        RolledBack x = Due.made("make 0 1;link 0 2 1;link 0 3 1;link 0 4 1;link 0 5 1;link 0 6 1;dir 0 7;grow 1 0;");
        Due.call(x, 1, "room", 0);
        Due.call(x, 0, "room", 1);
        Due.call(x, 8, "room", 2);
        Due.call(x, 0, "room", 3);
        Due.call(x, 0, "room", 11);
        Due.work(x, "link 0 8 1;", 1);
        Due.call(x, 0, "room", 0);
        Due.work(x, "grow 0 0;grow 2 0;", 2);
        Due.call(x, 8, "room", 0);
        Due.call(x, 16, "room", 2);
        // Of MEMORY, where NODE 2 is LESSENED.
        Due.work(x, "drop 0 7;write 4;", 2);
        Due.call(x, 9, "room", 0);
        Due.call(x, 0, "room", 2);
        for (int node : NO_NODES) {
            Due.call(x, NO_NODE, "room", node);
        }
    }

    @Says({"The NODE to which a BLOCK belongs by FIRST or SECOND (of NODES with LINKS, the first);", "NONE (so of BLOCK 0)."})
    static void p31_ownerOfNoneAndTheFirstOfTwo() {
        RolledBack x = Due.made("make 0 1;grow 1 5;grow 1 6;" + "make 0 2;grow 2 7;");
        int[] owners = {-1, -1, -1, -1, 0, 1, 1, 2, -1, -1, -1, -1, -1, -1, -1, -1};
        for (int block = 0; block < 16; block++) {
            Due.call(x, owners[block], "owner", block, 0);
            Due.call(x, owners[block], "owner", block, 1);
        }
        // Of NODES with LINKS alone; and of two the first, by SECOND or FIRST.
        Inside.setByte(x, 1, 1, 10, 6);
        Due.call(x, 1, "owner", 6, 1);
        Inside.setByte(x, 1, 1, 4, 0);
        Due.call(x, 2, "owner", 6, 1);
        Due.call(x, -1, "owner", 5, 1);
        Due.call(x, 1, "owner", 5, 0);
        // LESSENED in MEMORY, on DISK not yet.
        x = Due.made("make 0 1;grow 1 5;");
        Due.work(x, "drop 0 1;write 4;", 2);
        Due.call(x, -1, "owner", 5, 0);
        Due.call(x, 1, "owner", 5, 1);
        x = Due.made(CHAIN + "grow 10 0;");
        Due.call(x, 10, "owner", 15, 1);
    }

    @Says("How many bytes of a BLOCK are other ones in MEMORY than on DISK.")
    static void p32_unlikeOfNoneAndOfAll() {
        RolledBack x = Due.made("make 0 1;grow 1 5;");
        for (int block = 0; block < 16; block++) {
            Due.call(x, 0, "unlike", block);
        }
        Due.work(x, "put 1 0 6;put 1 15 6;put 1 15 7;", 3);
        Due.call(x, 2, "unlike", 5);
        Due.work(x, "put 1 0 5;grow 1 9;", 2);
        Due.call(x, 1, "unlike", 5);
        Due.call(x, 16, "unlike", 6);
        Due.call(x, 1, "unlike", 0);
    }
}
