/** The edges of Terms, section 2: the store, CHANGES, writes, and each STEP. */
final class EdgeSteps {
    /** Eleven files in a root of two blocks: no node is left. */
    private static final String ALL_NODES = "grow 0 0;make 0 1;make 0 2;make 0 3;make 0 4;make 0 5;make 0 6;"
        + "make 0 7;make 0 8;make 0 9;make 0 10;make 0 11;";

    private EdgeSteps() { }

    /** A root with 16 entries, all taken, by two files. */
    private static String allEntries() {
        StringBuilder text = new StringBuilder("grow 0 0;make 0 1;");
        for (int name = 2; name <= 16; name++) {
            text.append(name == 10 ? "make 0 10;" : "link 0 " + name + (name < 10 ? " 1;" : " 2;"));
        }
        return text.toString();
    }

    private static void bytes(RolledBack x, int block, int from, int where, int... want) {
        for (int k = 0; k < want.length; k++) {
            Due.call(x, want[k], "peek", block, from + k, where);
        }
    }

    // ---- the store

    @Says("Each BLOCK is 16 bytes, in MEMORY and on DISK.")
    static void t2_sixteenBytes() {
        RolledBack x = Due.made("make 0 1;grow 1 0;");
        Due.work(x, "put 1 15 7;put 1 0 8;", 2);
        bytes(x, 5, 14, 0, 0, 7);
        bytes(x, 6, 0, 0, 0);
        bytes(x, 5, 15, 1, 0);
        Due.work(x, "write 5;", 1);
        bytes(x, 5, 15, 1, 7);
        Due.call(x, "IndexOutOfBoundsException", "peek", 5, 16, 0);
        Due.call(x, "IndexOutOfBoundsException", "peek", 5, 16, 1);
    }

    @Says("BLOCK 0 is the MAP: its byte k is 1, if BLOCK k is USED, else 0.")
    static void t2_theMapEmptyAndFull() {
        RolledBack x = new RolledBack();
        bytes(x, 0, 0, 0, 1, 1, 1, 1, 1, 0, 0, 0, 0, 0, 0, 0, 0, 0, 0, 0);
        StringBuilder text = new StringBuilder();
        for (int node = 0; node < 11; node++) {
            text.append("dir ").append(node).append(" 1;");
        }
        Due.store(x, text.toString(), 16);
        for (int where = 0; where < 2; where++) {
            bytes(x, 0, 0, where, 1, 1, 1, 1, 1, 1, 1, 1, 1, 1, 1, 1, 1, 1, 1, 1);
            Due.call(x, 65535, "used", where);
        }
        // In a small one there is no more than its blocks.
        Due.store(x, "size 6;dir 0 1;dir 0 2;", 6);
        bytes(x, 0, 0, 1, 1, 1, 1, 1, 1, 1, 0, 0, 0, 0, 0, 0, 0, 0, 0, 0);
        Due.call(x, 63, "used", 1);
    }

    @Says({"BLOCKS 1, 2, 3 hold the NODES, four each: NODE n in BLOCK 1 and n by 4 (cut), from byte 4 times (n % 4) on:",
        "LINKS, TAG (0 nothing, 1 a file, 2 a directory), FIRST, SECOND (BLOCKS, 0 none)."})
    static void t2_theFirstAndTheLastNodeOfEachBlock() {
        RolledBack x = Due.made(ALL_NODES + "grow 3 7;grow 3 8;grow 4 9;grow 7 1;grow 8 2;grow 11 3;grow 11 4;");
        bytes(x, 1, 0, 1, 1, 2, 4, 5);
        bytes(x, 1, 12, 1, 1, 1, 6, 7);
        bytes(x, 2, 0, 1, 1, 1, 8, 0);
        bytes(x, 2, 12, 1, 1, 1, 9, 0);
        bytes(x, 3, 0, 1, 1, 1, 10, 0);
        bytes(x, 3, 12, 1, 1, 1, 11, 12);
        Due.call(x, 12, "node", 11, 3, 1);
        Due.call(x, 8, "node", 4, 2, 0);
    }

    @Says("A BLOCK of a directory has 8 ENTRIES: ENTRY j: byte 2 j its NAME (0: it is free), byte 2 j and 1 its NODE.")
    static void t2_theFirstAndTheLastEntryOfABlock() {
        RolledBack x = Due.made("make 0 11;make 0 12;make 0 13;make 0 14;make 0 15;make 0 16;make 0 17;");
        Due.call(x, 1, "room", 0);
        bytes(x, 4, 0, 1, 11, 1);
        bytes(x, 4, 14, 1, 0, 0);
        Due.work(x, "make 0 18;make 0 19;", 1);
        bytes(x, 4, 14, 0, 18, 8);
        Due.call(x, 0, "room", 0);
        Due.work(x, "drop 0 18;", 1);
        bytes(x, 4, 14, 0, 0, 8);
        Due.call(x, 1, "room", 0);
    }

    @Says({"At first, in MEMORY and on DISK: BLOCKS 0 to 4 are USED; NODE 0, the root, has LINKS 1, TAG 2, FIRST 4;",
        "all else is 0."})
    static void t2_atFirst() {
        RolledBack x = new RolledBack();
        for (int where = 0; where < 2; where++) {
            int sum = 0;
            for (int k = 0; k < 256; k++) {
                sum += x.peek(k / 16, k % 16, where) != 0 ? 1 : 0;
            }
            Due.equal("bytes that are not 0", sum, 8);
            Due.call(x, 31, "used", where);
            bytes(x, 1, 0, where, 1, 2, 4, 0);
        }
    }

    @Says("A directory is a NODE with LINKS and TAG 2, a file one with LINKS and TAG 1.")
    static void t2_withoutLinksItIsNeither() {
        RolledBack x = Due.made("dir 0 1;make 0 2;grow 2 9;");
        Due.call(x, 1, "deep", 1, 0);
        Due.call(x, 0, "deep", 2, 0);
        Due.call(x, 0, "room", 2);
        Due.refused(x, "make 2 5;");
        Due.refused(x, "put 1 0 5;");
        Due.refused(x, "cut 1;");
        // LESSENED in MEMORY, so neither is there any more; on DISK each is.
        Due.work(x, "drop 0 1;drop 0 2;write 4;", 3);
        Due.call(x, 0, "deep", 1, 0);
        Due.call(x, 1, "deep", 1, 1);
        Due.call(x, 0, "room", 1);
        Due.refused(x, "put 2 0 5;");
        Due.refused(x, "cut 2;");
        Due.refused(x, "link 0 7 2;");
        Due.refused(x, "make 1 5;");
    }

    @Says("A NODE is REACHED, if it is 0, or an ENTRY of a directory that is REACHED,")
    static void t2_reachedIsTheRootAndWhatReachedDirectoriesName() {
        RolledBack x = new RolledBack();
        Due.call(x, 1, "node", 0, 4, 0);
        for (int node = 1; node < 12; node++) {
            Due.call(x, 0, "node", node, 4, 0);
        }
        Due.store(x, "dir 0 1;make 1 2;make 0 3;", 16);
        Due.work(x, "drop 1 2;drop 0 1;write 4;crash;", 4);
        // NODE 1 names NODE 2 on DISK still, but nothing names NODE 1.
        Due.call(x, 2, "find", 1, 2, 0);
        int[] reached = {1, 0, 0, 1};
        for (int node = 0; node < 4; node++) {
            Due.call(x, reached[node], "node", node, 4, 0);
            Due.call(x, reached[node], "node", node, 4, 1);
        }
        // A file's bytes are no ENTRIES.
        Due.store(x, "make 0 1;grow 1 0;put 1 0 5;put 1 1 3;", 16);
        Due.call(x, 0, "node", 3, 4, 0);
    }

    @Says("of its FIRST or SECOND BLOCK, with a NAME, names it.")
    static void t2_reachedByTheSecondBlockAndNotWithoutAName() {
        RolledBack x = Due.made(ALL_NODES);
        for (int node = 0; node < 12; node++) {
            Due.call(x, 1, "node", node, 4, 1);
        }
        Due.work(x, "drop 0 1;drop 0 11;", 2);
        bytes(x, 4, 0, 0, 0, 1);
        bytes(x, 5, 4, 0, 0, 11);
        Due.call(x, 0, "node", 1, 4, 0);
        Due.call(x, 0, "node", 11, 4, 0);
        Due.call(x, 1, "node", 1, 4, 1);
        Due.call(x, 1, "node", 11, 4, 1);
    }

    // ---- CHANGES

    @Says({"A CHANGE puts a byte of a BLOCK (a WIPE: all its 16) from what it was to what it is, in MEMORY at once;",
        "one that would put what is there is not made."})
    static void t2_aChangeThatPutsWhatIsThereIsNotMade() {
        RolledBack x = Due.made("make 0 1;");
        Due.work(x, "grow 1 9;", 1);
        Due.changes(x, "0.5 0>1 0", "5.16 0>9 0", "1.6 0>5 2");
        for (int place = 0; place < 16; place++) {
            Due.call(x, 9, "peek", 5, place, 0);
            Due.call(x, 0, "peek", 5, place, 1);
        }
        x.undo();
        Due.work(x, "grow 1 0;", 1);
        Due.changes(x, "0.5 0>1 0", "1.6 0>5 1");
        Due.call(x, 2, "told", 9);
        // One byte of sixteen is another one, the last or the first: the WIPE is made.
        for (int place = 0; place < 16; place += 15) {
            x = Due.made("make 0 1;grow 1 5;put 1 " + place + " 6;");
            Due.work(x, "cut 1;write 1;grow 1 5;", 3);
            Due.changes(x, "0.5 1>0 0", "0.5 0>1 0", "5.16 " + (place == 0 ? 6 : 5) + ">5 0", "1.6 0>5 2");
        }
    }

    @Says({"It may NEED others, made ahead of it. It is UNSAFE, until it comes to DISK;",
        "what is not made, or not UNSAFE any more, is not NEEDED any more."})
    static void t2_whatIsNotUnsafeIsNotNeeded() {
        RolledBack x = new RolledBack();
        Due.work(x, "make 0 7;", 1);
        Due.changes(x, "1.4 0>1 0", "1.5 0>1 0", "4.1 0>1 0", "4.0 0>7 3");
        Due.work(x, "write 1;", 1);
        Due.changes(x, "4.1 0>1 0", "4.0 0>7 1");
        Due.call(x, 0, "waits", 4);
        Due.work(x, "write 4;", 1);
        Due.changes(x);
        // The byte NODE is there already, so it is not made.
        x = Due.made("make 0 1;");
        Due.work(x, "drop 0 1;write 4;write 1;make 0 2;", 4);
        Due.changes(x, "1.4 0>1 0", "1.5 0>1 0", "4.0 0>2 2");
    }

    @Says("A BLOCK of which any CHANGE is UNSAFE is DIRTY.")
    static void t2_dirtyThoughItsBytesAreAsOnDisk() {
        RolledBack x = Due.made("make 0 1;grow 1 0;");
        Due.call(x, 0, "told", 3);
        Due.work(x, "put 1 0 5;put 1 0 0;", 2);
        Due.call(x, 0, "unlike", 5);
        Due.call(x, 32, "told", 3);
        Due.work(x, "write 5;", 1);
        Due.call(x, 0, "told", 3);
    }

    // ---- writes

    @Says("write of a BLOCK (REFUSED, if it is not DIRTY; so, too, if the store has no such one):")
    static void t2_aWriteThatIsRefused() {
        RolledBack x = Due.made("size 6;make 0 1;grow 1 5;");
        for (int block = 0; block < 16; block++) {
            Due.refused(x, "write " + block + ";");
        }
        Due.work(x, "put 1 3 9;", 1);
        for (int block = 0; block < 16; block++) {
            if (block != 5) {
                Due.refused(x, "write " + block + ";");
            }
        }
        Due.work(x, "write 5;write 5;", 1);
        Due.call(x, 1, "told", 4);
    }

    @Says({"of its UNSAFE CHANGES, in the order in which they were made,",
        "one GOES, if each that it NEEDS and that is UNSAFE is of this BLOCK and GOES,"})
    static void t2_whatNeedsAnotherBlockIsHeldBack() {
        RolledBack x = new RolledBack();
        Due.work(x, "make 0 7;", 1);
        int[] goes = {1, 1, 1, 0};
        for (int k = 0; k < goes.length; k++) {
            Due.call(x, goes[k], "change", k, 5);
        }
        Due.call(x, 1, "held", 4);
        Due.work(x, "write 1;", 1);
        // What NAME needs now is of its own block, and goes.
        Due.call(x, 1, "change", 1, 4);
        Due.call(x, 1, "change", 1, 5);
        Due.call(x, 0, "held", 4);
        // NODE needs the drop's NAME, of its own block, but that is held back.
        x = new RolledBack();
        Due.work(x, "make 0 7;drop 0 7;make 0 8;", 3);
        Due.call(x, 1, "change", 7, 4);
        Due.call(x, 4, "change", 7, 0);
        Due.call(x, 1, "change", 7, 1);
        Due.call(x, 0, "change", 7, 5);
    }

    /** Block 5 was a directory's, of which a NAME is held back; now it is a file's. */
    private static RolledBack wipedBehindWhatIsHeldBack() {
        RolledBack x = Due.made("dir 0 1;make 0 2;make 0 3;");
        Due.work(x, "make 1 2;drop 1 2;drop 0 1;write 4;write 1;grow 2 9;", 6);
        Due.changes(x, "2.0 0>1 0", "2.1 0>1 0", "5.1 0>4 0", "5.0 0>2 3", "5.0 2>0 0", "0.5 1>0 0", "0.5 0>1 0",
            "5.16 0>9 0", "1.10 0>5 2");
        return x;
    }

    @Says("and each earlier UNSAFE one of this BLOCK that puts a byte it puts, too, GOES; else it is HELD BACK.")
    static void t2_whatPutsAByteOfOneHeldBackIsHeldBack() {
        RolledBack x = new RolledBack();
        Due.work(x, "make 0 7;drop 0 7;", 2);
        // The drop's NAME needs nothing, but the NAME ahead of it stays.
        Due.call(x, 0, "change", 4, 4);
        Due.call(x, 0, "change", 4, 5);
        Due.call(x, 2, "held", 4);
        // A WIPE puts all bytes: it stays behind one of them, and each of them stays behind it.
        x = wipedBehindWhatIsHeldBack();
        Due.work(x, "put 2 1 7;put 2 15 7;", 2);
        int[] goes = {1, 1, 1, 0, 0, 1, 1, 0, 0, 0, 0};
        for (int k = 0; k < goes.length; k++) {
            Due.call(x, goes[k], "change", k, 5);
        }
        Due.call(x, 5, "held", 5);
        // Other bytes of such a block go.
        Due.work(x, "write 5;", 1);
        Due.call(x, 5, "held", 5);
        bytes(x, 5, 0, 1, 0, 4, 0);
    }

    @Says({"DISK gets a copy of the BLOCK as it is in MEMORY, in which those HELD BACK are rolled back,",
        "the latest first: what they put is what it was."})
    static void t2_rolledBackTheLatestFirst() {
        RolledBack x = new RolledBack();
        // Were the first rolled back first, 7 would be left.
        Due.work(x, "make 0 7;drop 0 7;write 4;", 3);
        bytes(x, 4, 0, 1, 0, 1);
        x = wipedBehindWhatIsHeldBack();
        Due.work(x, "put 2 0 8;write 5;", 2);
        bytes(x, 5, 0, 0, 8, 9, 9, 9, 9, 9, 9, 9, 9, 9, 9, 9, 9, 9, 9, 9);
        bytes(x, 5, 0, 1, 0, 4, 0, 0, 0, 0, 0, 0, 0, 0, 0, 0, 0, 0, 0, 0);
        Due.work(x, "write 2;write 5;", 2);
        bytes(x, 5, 0, 1, 8, 9, 9, 9, 9, 9, 9, 9, 9, 9, 9, 9, 9, 9, 9, 9);
    }

    @Says("Those that GO are UNSAFE no more (MEMORY stays as it is).")
    static void t2_memoryStays() {
        RolledBack x = new RolledBack();
        Due.work(x, "make 0 7;write 4;", 2);
        bytes(x, 4, 0, 0, 7, 1);
        Due.changes(x, "1.4 0>1 0", "1.5 0>1 0", "4.0 0>7 2");
        // Nothing goes, and the write is done all the same.
        Due.work(x, "write 4;", 1);
        bytes(x, 4, 0, 0, 7, 1);
        Due.call(x, 2, "told", 4);
        Due.call(x, 2, "told", 5);
        Due.call(x, 3, "told", 1);
    }

    @Says({"Then what was PUT OFF until one of these is on DISK is done, in the order in which it was put off;",
        "what is put off by that comes behind."})
    static void t2_whatIsPutOffIsDoneInItsOrder() {
        RolledBack x = Due.made("make 0 1;grow 1 5;make 0 2;grow 2 6;");
        Due.work(x, "drop 0 2;drop 0 1;write 4;", 3);
        Due.changes(x, "1.8 1>0 0", "1.9 1>0 0", "1.10 6>0 0", "1.4 1>0 0", "1.5 1>0 0", "1.6 5>0 0");
        Due.call(x, 2, "told", 2);
        x.undo();
        // The cut is put off behind the drop, but ahead of what the drop puts off.
        Due.work(x, "drop 0 1;cut 2;write 4;", 3);
        Due.call(x, 2, "told", 2);
        Due.changes(x, "1.10 6>0 0", "1.4 1>0 0", "1.5 1>0 0", "1.6 5>0 0");
        Due.work(x, "write 1;", 1);
        Due.changes(x, "0.6 1>0 0", "0.5 1>0 0");
        Due.call(x, 0, "told", 2);
        // A write by which what it waits for does not go leaves it put off.
        x = new RolledBack();
        Due.work(x, "make 0 7;drop 0 7;write 4;", 3);
        Due.call(x, 1, "told", 2);
        Due.work(x, "write 1;", 1);
        Due.call(x, 1, "told", 2);
        Due.work(x, "write 4;", 1);
        Due.call(x, 0, "told", 2);
        Due.changes(x, "1.4 1>0 0", "1.5 1>0 0");
    }

    // ---- STEPS

    @Says("STEPS are done in order; one that can't be done is REFUSED, and changes nothing;")
    static void t2_aStepThatIsRefusedChangesNothing() {
        RolledBack x = Due.made("make 0 1;grow 1 5;dir 0 2;make 2 3;");
        for (String step : new String[] {"make 0 1;", "dir 0 1;", "link 0 1 1;", "grow 9 1;", "put 1 0 5;", "cut 3;", "drop 0 2;",
            "write 0;", "sync;", "sweep;"}) {
            Due.refused(x, step);
        }
        Due.work(x, "make 0 9;drop 0 9;", 2);
        x.undo();
        Due.work(x, "drop 0 9;make 0 9;", 1);
        for (String step : new String[] {"make 0 1;", "dir 0 1;", "link 0 1 1;", "grow 9 1;", "put 1 0 5;", "cut 3;", "drop 0 2;",
            "write 0;", "sweep;"}) {
            Due.refused(x, step);
        }
    }

    @Says({"200 STEPS at most are begun by one WORK", "what would come behind is left out."})
    static void t2_twoHundredSteps() {
        RolledBack x = new RolledBack();
        // 181 and 18 are 199: the make is the 200th.
        Due.work(x, "again 60[crash;crash;crash;];again 17[crash;];make 0 1;", 198);
        Due.call(x, 1, "find", 0, 1, 0);
        Due.call(x, 197, "told", 6);
        x.undo();
        Due.work(x, "again 60[crash;crash;crash;];again 18[crash;];make 0 1;", 198);
        Due.call(x, -1, "find", 0, 1, 0);
        Due.call(x, 198, "told", 6);
        // What is left out is not REFUSED.
        Due.call(x, 0, "told", 8);
        // The next WORK begins 200 of its own.
        Due.work(x, "again 60[crash;crash;crash;];", 180);
    }

    @Says("(an again, too, each time it is come to; REFUSED ones, too),")
    static void t2_againsAndRefusedOnesAreOfTheTwoHundred() {
        RolledBack x = new RolledBack();
        // The outer one, then four a time: 49 times, an again, a crash, an again.
        Due.work(x, "again 60[again 1[crash;];again 1[crash;];];", 99);
        Due.call(x, 99, "told", 6);
        // Of no times, too: 1, 180, 1 and 18 are 200.
        Due.work(x, "again 60[again 0[];again 0[crash;];again 0[];];again 18[crash;];make 0 1;", 18);
        Due.call(x, -1, "find", 0, 1, 0);
        Due.work(x, "again 60[again 0[];again 0[crash;];again 0[];];again 17[crash;];make 0 1;", 18);
        Due.call(x, 1, "find", 0, 1, 0);
        x.undo();
        Due.work(x, "again 60[sync;sync;sync;];again 18[sync;];make 0 1;", 0);
        Due.call(x, 198, "told", 8);
        Due.work(x, "again 60[sync;sync;sync;];again 17[sync;];make 0 1;", 1);
        Due.call(x, 197, "told", 8);
    }

    @Says("All is asked of MEMORY.")
    static void t2_allIsAskedOfMemory() {
        RolledBack x = Due.made("make 0 1;grow 1 5;");
        Due.work(x, "dir 0 2;make 2 3;make 2 3;", 2);
        x.undo();
        Due.work(x, "drop 0 1;make 0 1;drop 0 1;drop 0 1;", 3);
        x.undo();
        // On DISK block 5 is USED and pointed to, in MEMORY it is free.
        Due.work(x, "cut 1;cut 1;write 1;grow 1 7;", 3);
        Due.call(x, 5, "node", 1, 2, 0);
    }

    /** The steps that are refused when there is too much; each can be done on the stores below. */
    private static void eachIsDone(RolledBack x, boolean done, String... steps) {
        for (String step : steps) {
            if (done) {
                Due.work(x, step, 1);
                x.undo();
            } else {
                Due.refused(x, step);
            }
        }
    }

    @Says("make, dir, link, grow, put, cut, drop, sweep are REFUSED, too, if 60 or more CHANGES are UNSAFE,")
    static void t2_fiftyNineAndSixtyUnsafeChanges() {
        RolledBack x = Due.made("make 0 1;grow 1 0;make 0 2;grow 2 7;");
        // NODE 3 is lost, so that sweep finds something.
        Due.work(x, "make 0 9;write 1;crash;", 3);
        Due.call(x, 3, "finds");
        String[] steps = {"make 0 20;", "dir 0 20;", "link 0 20 1;", "grow 1 5;", "put 1 1 1;", "cut 2;", "drop 0 2;", "sweep;"};
        Due.work(x, "again 29[put 1 0 1;put 1 0 0;];put 1 0 1;", 59);
        Due.call(x, 59, "told", 1);
        eachIsDone(x, true, steps);
        Due.work(x, "put 1 0 0;", 1);
        Due.call(x, 60, "told", 1);
        eachIsDone(x, false, steps);
        eachIsDone(x, true, "write 5;", "sync;", "crash;");
        x.undo();
        // One step may go above; and below again, it is as before.
        Due.work(x, "dir 0 20;make 0 21;", 1);
        Due.call(x, 65, "told", 1);
        eachIsDone(x, false, steps);
        Due.work(x, "write 5;make 0 21;", 2);
    }

    @Says("or 30 or more things are put off.")
    static void t2_twentyNineAndThirtyThingsPutOff() {
        StringBuilder store = new StringBuilder("dir 0 1;dir 0 2;make 0 3;make 0 4;make 0 5;make 0 6;make 0 7;grow 1 0;grow 2 0;"
            + "grow 7 7;");
        for (int k = 0; k < 32; k++) {
            store.append("link ").append(1 + k / 16).append(' ').append(k % 16 + 1).append(' ').append(3 + k / 8).append(';');
        }
        RolledBack x = Due.made(store.toString());
        Due.call(x, 39, "under", 0, 1);
        Due.work(x, "make 0 50;write 3;crash;", 3);
        StringBuilder first = new StringBuilder();
        StringBuilder second = new StringBuilder();
        for (int k = 1; k <= 15; k++) {
            first.append("drop 1 ").append(k).append(';');
            second.append(k < 15 ? "drop 2 " + k + ";" : "");
        }
        Due.work(x, first.toString(), 15);
        Due.work(x, second.toString(), 14);
        Due.call(x, 29, "told", 2);
        Due.call(x, 8, "finds");
        eachIsDone(x, true, "make 0 60;", "dir 0 60;", "link 0 60 7;", "grow 7 5;", "put 7 1 1;", "cut 7;", "drop 2 15;", "sweep;");
        Due.work(x, "drop 2 15;", 1);
        Due.call(x, 30, "told", 2);
        Due.call(x, 30, "told", 1);
        eachIsDone(x, false, "make 0 60;", "dir 0 60;", "link 0 60 7;", "grow 7 5;", "put 7 1 1;", "cut 7;", "drop 2 16;", "sweep;");
        eachIsDone(x, true, "write 5;", "sync;", "crash;");
        // Of all 30 none is lost.
        Due.work(x, "sync;sync;", 2);
        Due.call(x, 0, "told", 2);
        Due.call(x, 0, "told", 1);
        Due.call(x, 1, "node", 3, 0, 1);
        Due.call(x, 2, "node", 6, 0, 1);
    }

    // ---- make and dir

    @Says("make: REFUSED, if D is no directory with LINKS that is REACHED,")
    static void t2_makeInWhatIsNoDirectoryOrIsNotReached() {
        for (String word : new String[] {"make", "dir"}) {
            RolledBack x = Due.made("dir 0 1;make 0 2;grow 2 0;");
            Due.refused(x, word + " 2 5;");
            Due.refused(x, word + " 3 5;");
            Due.refused(x, word + " 11 5;");
            Due.work(x, word + " 1 5;", 1);
            x.undo();
            Due.work(x, "drop 0 1;", 1);
            Due.call(x, 1, "node", 1, 0, 0);
            Due.call(x, 1, "deep", 1, 0);
            Due.refused(x, word + " 1 5;");
            Due.work(x, "write 4;", 1);
            Due.refused(x, word + " 1 5;");
        }
    }

    @Says("it has an ENTRY of NAME N,")
    static void t2_makeOfANameThatIsThere() {
        for (String word : new String[] {"make", "dir"}) {
            RolledBack x = Due.made("make 0 1;make 0 2;make 0 3;make 0 4;make 0 5;make 0 6;make 0 7;make 0 99;grow 0 0;make 0 9;");
            for (int name : new int[] {1, 99, 9}) {
                Due.refused(x, word + " 0 " + name + ";");
            }
            Due.work(x, word + " 0 98;", 1);
            Due.refused(x, word + " 0 98;");
            // Dropped in MEMORY, it is there no more.
            Due.work(x, "drop 0 9;" + word + " 0 9;", 2);
        }
    }

    @Says({"it has no free ENTRY (FIRST, then SECOND; the first free one is taken),"})
    static void t2_makeInADirectoryThatIsFull() {
        for (String word : new String[] {"make", "dir"}) {
            RolledBack x = Due.made("make 0 1;link 0 2 1;link 0 3 1;link 0 4 1;link 0 5 1;link 0 6 1;link 0 7 1;");
            Due.work(x, word + " 0 8;", 1);
            Due.refused(x, word + " 0 9;");
            // A second block has eight more.
            x = Due.made(allEntries());
            Due.call(x, 0, "room", 0);
            Due.call(x, 16, "under", 0, 0);
            Due.refused(x, word + " 0 17;");
            Due.work(x, "drop 0 12;drop 0 11;drop 0 8;drop 0 3;", 4);
            int[][] places = {{4, 4}, {4, 14}, {5, 4}, {5, 6}};
            for (int k = 0; k < 4; k++) {
                Due.work(x, word + " 0 " + (20 + k) + ";", 1);
                Due.call(x, 20 + k, "peek", places[k][0], places[k][1], 0);
                Due.call(x, 3 + k, "peek", places[k][0], places[k][1] + 1, 0);
            }
            Due.refused(x, word + " 0 30;");
        }
    }

    @Says("or no NODE has LINKS 0 and TAG 0 (the least is taken).")
    static void t2_makeWhenNoNodeIsLeft() {
        for (String word : new String[] {"make", "dir"}) {
            RolledBack x = Due.made(ALL_NODES.substring(0, ALL_NODES.indexOf("make 0 11;")));
            Due.work(x, word + " 0 11;", 1);
            Due.call(x, 11, "find", 0, 11, 0);
            Due.call(x, 5, "room", 0);
            Due.refused(x, word + " 0 12;");
            // Dropped, but not LESSENED yet, it has LINKS.
            Due.work(x, "sync;drop 0 7;drop 0 4;", 3);
            Due.refused(x, word + " 0 12;");
            Due.work(x, "write 4;" + word + " 0 12;" + word + " 0 13;" + word + " 0 14;", 3);
            Due.call(x, 4, "find", 0, 12, 0);
            Due.call(x, 7, "find", 0, 13, 0);
            // LINKS without TAG, or TAG without LINKS, is none such; that is by no call.
            x = new RolledBack();
            Inside.setByte(x, 0, 1, 5, 1);
            Inside.setByte(x, 0, 1, 8, 1);
            Due.work(x, word + " 0 5;", 1);
            Due.call(x, 3, "find", 0, 5, 0);
        }
    }

    @Says({"CHANGES, in this order: LINKS to 1; TAG to 1; byte NODE of the ENTRY",
        "byte NAME to N (NEEDS these three)."})
    static void t2_theChangesOfMake() {
        RolledBack x = new RolledBack();
        Due.work(x, "make 0 99;", 1);
        Due.changes(x, "1.4 0>1 0", "1.5 0>1 0", "4.1 0>1 0", "4.0 0>99 3");
        Due.call(x, 2, "waits", 4);
        // The last node and the last entry but five.
        x = Due.made(ALL_NODES.substring(0, ALL_NODES.indexOf("make 0 11;")));
        Due.work(x, "make 0 1;make 0 50;", 1);
        Due.changes(x, "3.12 0>1 0", "3.13 0>1 0", "5.5 0>11 0", "5.4 0>50 3");
    }

    @Says("(NEEDS the latest UNSAFE CHANGE of byte NAME of this ENTRY, if there is any; a WIPE is none such);")
    static void t2_whatTheByteNodeNeeds() {
        RolledBack x = Due.made("make 0 1;make 0 2;");
        // The drop is the latest; another ENTRY's is none such.
        Due.work(x, "drop 0 1;drop 0 2;make 0 3;", 3);
        Due.changes(x, "4.0 1>0 0", "4.2 2>0 0", "1.12 0>1 0", "1.13 0>1 0", "4.1 1>3 1", "4.0 0>3 3");
        // Of three it is the last alone.
        x = Due.made("make 0 1;");
        Due.work(x, "drop 0 1;link 0 5 1;drop 0 5;make 0 6;", 4);
        Due.changes(x, "4.0 1>0 0", "1.4 1>2 0", "4.0 0>5 1", "4.0 5>0 0", "1.8 0>1 0", "1.9 0>1 0", "4.1 1>2 1", "4.0 0>6 3");
        // Others that came to DISK do not hide it.
        x = Due.made("make 0 1;grow 1 5;");
        Due.work(x, "put 1 0 6;put 1 1 6;put 1 2 6;drop 0 1;write 5;make 0 3;", 6);
        Due.changes(x, "4.0 1>0 0", "1.8 0>1 0", "1.9 0>1 0", "4.1 1>2 1", "4.0 0>3 3");
        // On DISK by now, it is not needed.
        x = Due.made("make 0 1;");
        Due.work(x, "drop 0 1;write 4;make 0 3;", 3);
        Due.changes(x, "1.4 1>0 0", "1.5 1>0 0", "1.4 0>1 0", "1.5 0>1 0", "4.0 0>3 2");
        // A WIPE puts the byte NAME, too, but is none such.
        x = Due.made("make 0 1;grow 1 9;");
        Due.work(x, "cut 1;write 1;write 0;dir 0 2;make 2 3;", 5);
        Due.changes(x, "1.8 0>1 0", "1.9 0>2 0", "0.5 0>1 0", "5.16 9>0 0", "1.10 0>5 2", "4.3 0>2 0",
            "4.2 0>2 4", "1.12 0>1 0", "1.13 0>1 0", "5.1 0>3 0", "5.0 0>3 3");
    }

    @Says("dir: likewise with TAG 2, and REFUSED, too, if no BLOCK from 4 on, below the size, is free by the MAP (the least is taken):")
    static void t2_dirWhenNoBlockIsFree() {
        RolledBack x = Due.made("size 6;make 0 1;grow 1 0;");
        Due.call(x, 63, "used", 0);
        Due.refused(x, "dir 0 2;");
        Due.work(x, "make 0 2;", 1);
        x = Due.made("size 6;make 0 1;");
        Due.work(x, "dir 0 2;dir 0 3;", 1);
        Due.call(x, 5, "node", 2, 2, 0);
        Due.call(x, 2, "node", 2, 1, 0);
        // All sixteen are USED, and a node is left.
        x = Due.made("dir 0 1;dir 1 1;dir 2 1;dir 3 1;dir 4 1;dir 5 1;dir 6 1;dir 7 1;dir 8 1;dir 9 1;grow 10 0;");
        Due.call(x, 65535, "used", 0);
        Due.refused(x, "dir 0 2;");
        Due.work(x, "make 0 2;", 1);
        // The least that is free by the MAP in MEMORY.
        x = Due.made("make 0 1;grow 1 1;make 0 2;grow 2 2;grow 2 3;");
        Due.work(x, "cut 1;cut 2;write 1;dir 0 3;dir 0 4;dir 0 5;", 6);
        Due.call(x, 5, "node", 3, 2, 0);
        Due.call(x, 7, "node", 4, 2, 0);
        Due.call(x, 8, "node", 5, 2, 0);
        // Cut, but not freed yet, it is USED.
        x = Due.made("size 6;make 0 1;grow 1 1;");
        Due.work(x, "cut 1;dir 0 2;", 1);
        Due.work(x, "write 1;dir 0 2;", 2);
    }

    @Says({"behind TAG: MAP byte to 1; a WIPE of the BLOCK to 0; FIRST to the BLOCK (NEEDS these two);",
        "the ENTRY's byte NAME NEEDS FIRST, too."})
    static void t2_theChangesOfDir() {
        RolledBack x = Due.made("make 0 1;grow 1 9;");
        Due.work(x, "cut 1;write 1;write 0;dir 0 2;", 4);
        Due.changes(x, "1.8 0>1 0", "1.9 0>2 0", "0.5 0>1 0", "5.16 9>0 0", "1.10 0>5 2", "4.3 0>2 0", "4.2 0>2 4");
        Due.call(x, 33, "waits", 1);
        Due.call(x, 2, "waits", 4);
        // LINKS and TAG go, FIRST does not: NAME stays behind it.
        Due.work(x, "write 1;", 1);
        Due.call(x, 1, "held", 4);
        Due.work(x, "write 0;write 1;", 2);
        Due.call(x, 1, "held", 1);
        Due.work(x, "write 5;", 1);
        Due.call(x, 0, "held", 1);
        Due.call(x, 1, "held", 4);
        Due.work(x, "write 1;", 1);
        Due.call(x, 0, "held", 4);
    }

    // ---- link, grow, put, cut

    @Says({"link: REFUSED, if M is no file with LINKS 1 to 8, or D, N are not as in make:"})
    static void t2_linkOfNoLinksOfEightAndOfNine() {
        RolledBack x = Due.made("dir 0 1;make 0 2;link 0 3 2;link 0 4 2;link 0 5 2;link 0 6 2;link 0 7 2;link 0 8 2;link 1 1 2;");
        Due.call(x, 8, "node", 2, 0, 1);
        Due.work(x, "link 1 2 2;", 1);
        Due.call(x, 9, "node", 2, 0, 0);
        Due.refused(x, "link 1 3 2;");
        Due.refused(x, "link 1 3 0;");
        Due.refused(x, "link 1 3 1;");
        Due.refused(x, "link 1 3 3;");
        Due.refused(x, "link 1 3 11;");
        // D and N.
        x = Due.made("dir 0 1;make 0 2;make 1 3;");
        Due.refused(x, "link 2 5 2;");
        Due.refused(x, "link 9 5 2;");
        Due.refused(x, "link 0 2 2;");
        Due.refused(x, "link 1 3 2;");
        Due.work(x, "drop 1 3;drop 0 1;", 2);
        Due.refused(x, "link 1 5 2;");
        x = Due.made(allEntries());
        Due.refused(x, "link 0 17 2;");
        Due.work(x, "drop 0 16;link 0 17 2;", 2);
        Due.call(x, 17, "peek", 5, 14, 0);
        // No NODE need be left for it.
        x = Due.made(ALL_NODES);
        Due.work(x, "link 0 12 11;", 1);
    }

    @Says("LINKS 1 more; byte NODE likewise; byte NAME (NEEDS these two).")
    static void t2_theChangesOfLink() {
        RolledBack x = Due.made("make 0 1;make 0 2;");
        Due.work(x, "link 0 9 1;", 1);
        Due.changes(x, "1.4 1>2 0", "4.5 0>1 0", "4.4 0>9 2");
        Due.work(x, "drop 0 2;link 0 8 1;", 2);
        Due.changes(x, "1.4 1>2 0", "4.5 0>1 0", "4.4 0>9 2", "4.2 2>0 0", "1.4 2>3 0", "4.3 2>1 1", "4.2 0>8 2");
    }

    @Says("grow: REFUSED, if M has no LINKS, or both FIRST and SECOND, or no BLOCK is free:")
    static void t2_growThatIsRefused() {
        RolledBack x = Due.made("size 8;make 0 1;dir 0 2;");
        Due.refused(x, "grow 3 5;");
        Due.refused(x, "grow 11 5;");
        Due.work(x, "grow 1 5;grow 1 6;", 2);
        Due.refused(x, "grow 1 7;");
        // Blocks 5, 6 and 7 are taken.
        Due.call(x, 255, "used", 0);
        Due.refused(x, "grow 2 0;");
        Due.refused(x, "grow 0 0;");
        x = Due.made("dir 0 1;grow 0 0;grow 1 0;");
        Due.refused(x, "grow 0 0;");
        Due.refused(x, "grow 1 0;");
        // LESSENED to 0, it has no LINKS.
        x = Due.made("make 0 1;");
        Due.work(x, "drop 0 1;grow 1 5;write 4;grow 1 5;", 3);
    }

    @Says({"MAP byte to 1; a WIPE to V (of a directory to 0);", "FIRST, if that is 0, else SECOND, to the BLOCK (NEEDS these two)."})
    static void t2_growOfFirstAndOfSecond() {
        RolledBack x = Due.made("make 0 1;dir 0 2;");
        Due.work(x, "grow 1 99;grow 1 1;grow 2 7;", 3);
        Due.changes(x, "0.6 0>1 0", "6.16 0>99 0", "1.6 0>6 2", "0.7 0>1 0", "7.16 0>1 0", "1.7 0>7 2", "0.8 0>1 0", "1.11 0>8 1");
        // A directory's block that was a file's is wiped to 0, whatever V is.
        x = Due.made("dir 0 1;make 0 2;grow 2 9;");
        Due.work(x, "cut 2;write 1;write 0;grow 1 5;", 4);
        Due.changes(x, "0.6 0>1 0", "6.16 9>0 0", "1.7 0>6 2");
        // FIRST is 0, though SECOND is not: only SECOND's block was written.
        x = Due.made("make 0 1;");
        Due.work(x, "grow 1 5;grow 1 6;write 0;write 6;write 1;crash;", 6);
        Due.call(x, 0, "node", 1, 2, 0);
        Due.call(x, 6, "node", 1, 3, 0);
        Due.work(x, "grow 1 8;", 1);
        Due.changes(x, "0.7 0>1 0", "7.16 0>8 0", "1.6 0>7 2");
    }

    @Says({"Here and in dir, if no WIPE is made (the BLOCK is so already),",
        "FIRST or SECOND NEEDS each UNSAFE CHANGE of the BLOCK in its place."})
    static void t2_withoutAWipeEachChangeOfTheBlockIsNeeded() {
        RolledBack x = Due.made("make 0 1;grow 1 0;");
        String old = "put 1 0 5;put 1 9 6;put 1 0 0;put 1 9 0;cut 1;write 1;";
        Due.work(x, old + "dir 0 2;", 7);
        Due.changes(x, "5.0 0>5 0", "5.9 0>6 0", "5.0 5>0 0", "5.9 6>0 0", "0.5 1>0 0", "1.8 0>1 0", "1.9 0>2 0", "0.5 0>1 0",
            "1.10 0>5 5", "4.3 0>2 0", "4.2 0>2 4");
        Due.call(x, 33, "waits", 1);
        Due.work(x, "write 0;", 1);
        Due.call(x, 32, "waits", 1);
        Due.call(x, 1, "held", 1);
        Due.work(x, "write 5;", 1);
        Due.call(x, 0, "waits", 1);
        Due.call(x, 0, "held", 1);
        // One alone, the first of all that are UNSAFE; and one of another block ahead of it, which is not needed.
        x = Due.made("make 0 1;grow 1 0;put 1 0 5;make 0 3;grow 2 7;");
        Due.work(x, "put 1 0 0;put 2 0 8;cut 1;write 1;write 0;dir 0 2;", 6);
        Due.changes(x, "5.0 5>0 0", "6.0 7>8 0", "1.12 0>1 0", "1.13 0>2 0", "0.5 0>1 0", "1.14 0>5 2", "4.5 0>3 0", "4.4 0>2 4");
        Due.call(x, 33, "waits", 1);
        Due.work(x, "write 0;", 1);
        Due.call(x, 32, "waits", 1);
        Due.call(x, 1, "change", 4, 4);
        Due.call(x, 1, "held", 1);
        Due.work(x, "write 5;", 1);
        Due.call(x, 0, "waits", 1);
        Due.call(x, 0, "held", 1);
        // What is changed later is not needed.
        x = Due.made("make 0 1;grow 1 0;");
        Due.work(x, old + "grow 1 0;put 1 3 7;", 8);
        Due.changes(x, "5.0 0>5 0", "5.9 0>6 0", "5.0 5>0 0", "5.9 6>0 0", "0.5 1>0 0", "0.5 0>1 0", "1.6 0>5 5", "5.3 0>7 0");
        // With a WIPE, that alone is needed.
        x = Due.made("make 0 1;grow 1 0;");
        Due.work(x, old + "grow 1 4;", 7);
        Due.call(x, 2, "change", 7, 4);
        // None of the block is UNSAFE: the MAP's alone.
        x = Due.made("make 0 1;grow 1 3;");
        Due.work(x, "cut 1;write 1;grow 1 3;", 3);
        Due.changes(x, "0.5 1>0 0", "0.5 0>1 0", "1.6 0>5 1");
        // SECOND likewise.
        x = Due.made("make 0 1;grow 1 9;grow 1 0;");
        Due.work(x, "put 1 31 5;put 1 31 0;cut 1;write 1;grow 1 0;", 5);
        Due.changes(x, "6.15 0>5 0", "6.15 5>0 0", "0.6 1>0 0", "0.6 0>1 0", "1.7 0>6 3");
    }

    @Says("put: of a file with LINKS byte I of its FIRST BLOCK (from 16 on: I less 16 of its SECOND) to V (REFUSED, if there is none, or it is V).")
    static void t2_putAtTheEndsOfBothBlocks() {
        RolledBack x = Due.made("make 0 1;dir 0 2;");
        Due.refused(x, "put 1 0 0;");
        Due.refused(x, "put 1 0 1;");
        Due.refused(x, "put 1 31 1;");
        Due.refused(x, "put 0 0 1;");
        Due.refused(x, "put 2 0 1;");
        Due.refused(x, "put 3 0 1;");
        x = Due.made("make 0 1;grow 1 5;");
        Due.work(x, "put 1 0 99;put 1 15 0;", 2);
        Due.changes(x, "5.0 5>99 0", "5.15 5>0 0");
        Due.refused(x, "put 1 0 99;");
        Due.refused(x, "put 1 7 5;");
        Due.refused(x, "put 1 16 1;");
        Due.refused(x, "put 1 31 1;");
        x = Due.made("make 0 1;grow 1 5;grow 1 6;");
        Due.work(x, "put 1 15 1;put 1 16 2;put 1 31 3;", 3);
        Due.changes(x, "5.15 5>1 0", "6.0 6>2 0", "6.15 6>3 0");
        Due.refused(x, "put 1 17 6;");
        // FIRST is 0, SECOND is not.
        x = Due.made("make 0 1;");
        Due.work(x, "grow 1 5;grow 1 6;write 0;write 6;write 1;crash;", 6);
        Due.refused(x, "put 1 3 1;");
        Due.work(x, "put 1 19 1;", 1);
        Due.changes(x, "6.3 6>1 0");
        // Dropped, but not LESSENED yet, it has LINKS.
        x = Due.made("make 0 1;grow 1 5;");
        Due.work(x, "drop 0 1;put 1 0 1;write 4;put 1 0 2;", 3);
        Due.call(x, 1, "told", 8);
    }

    @Says({"cut: of a file with LINKS SECOND, if it is not 0, else FIRST, to 0 (REFUSED, if both are 0);",
        "put off until that is on DISK: its BLOCK is freed: MAP byte to 0."})
    static void t2_cutOfSecondThenOfFirst() {
        RolledBack x = Due.made("make 0 1;grow 1 5;grow 1 6;dir 0 2;grow 2 0;make 0 3;");
        Due.refused(x, "cut 0;");
        Due.refused(x, "cut 2;");
        Due.refused(x, "cut 3;");
        Due.refused(x, "cut 4;");
        Due.work(x, "cut 1;", 1);
        Due.changes(x, "1.7 6>0 0");
        Due.call(x, 1, "told", 2);
        Due.work(x, "cut 1;", 1);
        Due.changes(x, "1.7 6>0 0", "1.6 5>0 0");
        Due.call(x, 2, "told", 2);
        Due.refused(x, "cut 1;");
        Due.call(x, 511, "used", 0);
        Due.work(x, "write 1;", 1);
        Due.changes(x, "0.6 1>0 0", "0.5 1>0 0");
        Due.call(x, 511 - 96, "used", 0);
        Due.call(x, 511, "used", 1);
        Due.call(x, 0, "told", 2);
        // Grown and cut ahead of any write: freed when both are on DISK.
        x = Due.made("make 0 1;");
        Due.work(x, "grow 1 5;cut 1;write 1;", 3);
        Due.changes(x, "0.5 0>1 0", "5.16 0>5 0", "1.6 0>5 2", "1.6 5>0 0");
        Due.call(x, 1, "told", 2);
        Due.work(x, "write 0;write 5;write 1;", 3);
        Due.changes(x, "0.5 1>0 0");
        // Only SECOND is there.
        x = Due.made("make 0 1;");
        Due.work(x, "grow 1 5;grow 1 6;write 0;write 6;write 1;crash;cut 1;cut 1;", 7);
        Due.changes(x, "1.7 6>0 0");
    }

    // ---- drop

    @Says("drop: the ENTRY of D of NAME N: byte NAME to 0 (REFUSED, if D is no directory with LINKS that is REACHED, there is none,")
    static void t2_dropThatIsRefused() {
        RolledBack x = Due.made("dir 0 1;make 1 2;make 0 3;grow 3 2;");
        Due.refused(x, "drop 3 2;");
        Due.refused(x, "drop 4 2;");
        Due.refused(x, "drop 11 2;");
        Due.refused(x, "drop 0 2;");
        Due.refused(x, "drop 1 3;");
        Due.refused(x, "drop 1 99;");
        Due.work(x, "drop 1 2;", 1);
        Due.changes(x, "5.0 2>0 0");
        Due.refused(x, "drop 1 2;");
        // On DISK it names NODE 2 still; it is not REACHED any more.
        Due.work(x, "drop 0 1;write 4;crash;", 3);
        Due.call(x, 2, "find", 1, 2, 0);
        Due.refused(x, "drop 1 2;");
        // In SECOND.
        x = Due.made(allEntries());
        Due.work(x, "drop 0 16;drop 0 16;", 1);
        Due.changes(x, "5.14 16>0 0");
    }

    @Says("or it names a directory that has any ENTRY with a NAME);")
    static void t2_dropOfADirectoryThatIsNotEmpty() {
        RolledBack x = Due.made("dir 0 1;make 1 2;");
        Due.refused(x, "drop 0 1;");
        Due.work(x, "drop 1 2;drop 0 1;", 2);
        // One ENTRY, the last of SECOND.
        x = Due.made("dir 0 1;make 0 2;grow 1 0;link 1 1 2;link 1 2 2;link 1 3 2;link 1 4 2;link 1 5 2;link 1 6 2;link 1 7 2;"
            + "link 1 8 2;make 0 3;link 1 9 3;link 1 10 3;link 1 11 3;link 1 12 3;link 1 13 3;link 1 14 3;link 1 15 3;link 1 16 3;");
        Due.call(x, 0, "room", 1);
        Due.work(x, "drop 1 1;drop 1 2;drop 1 3;drop 1 4;drop 1 5;drop 1 6;drop 1 7;drop 1 8;drop 1 9;drop 1 10;drop 1 11;"
            + "drop 1 12;drop 1 13;", 13);
        Due.work(x, "drop 1 14;drop 1 15;", 2);
        Due.call(x, 15, "room", 1);
        Due.refused(x, "drop 0 1;");
        Due.work(x, "drop 1 16;drop 0 1;", 2);
        // A file may have bytes like an ENTRY's.
        x = Due.made("make 0 1;grow 1 5;");
        Due.work(x, "drop 0 1;", 1);
    }

    @Says("put off until that is on DISK: its NODE is LESSENED (nothing, if its LINKS are 0):")
    static void t2_lessenedWhenTheNameIsOnDisk() {
        RolledBack x = Due.made("make 0 1;");
        Due.work(x, "drop 0 1;", 1);
        Due.call(x, 1, "told", 2);
        Due.call(x, 1, "node", 1, 0, 0);
        Due.work(x, "write 4;", 1);
        Due.call(x, 0, "told", 2);
        Due.changes(x, "1.4 1>0 0", "1.5 1>0 0");
        // Without LINKS nothing is done; TAG and FIRST stay.
        x = Due.made("make 0 1;grow 1 5;");
        Due.work(x, "drop 0 1;", 1);
        Inside.setByte(x, 0, 1, 4, 0);
        Due.work(x, "write 4;", 1);
        Due.changes(x);
        Due.call(x, 0, "told", 2);
        bytes(x, 1, 4, 0, 0, 1, 5, 0);
    }

    @Says({"LINKS 1 less; are they 0 then: TAG to 0, then FIRST, then SECOND, if they are not 0, to 0,",
        "and put off until each is on DISK: that BLOCK is freed."})
    static void t2_lessenedToOneAndToNone() {
        RolledBack x = Due.made("make 0 1;link 0 2 1;grow 1 5;grow 1 6;");
        Due.work(x, "drop 0 1;write 4;", 2);
        Due.changes(x, "1.4 2>1 0");
        Due.call(x, 0, "told", 2);
        Due.work(x, "drop 0 2;write 4;", 2);
        Due.changes(x, "1.4 2>1 0", "1.4 1>0 0", "1.5 1>0 0", "1.6 5>0 0", "1.7 6>0 0");
        Due.call(x, 2, "told", 2);
        Due.call(x, 127, "used", 0);
        Due.work(x, "write 1;", 1);
        Due.changes(x, "0.5 1>0 0", "0.6 1>0 0");
        Due.call(x, 0, "told", 2);
        // FIRST alone, SECOND alone, neither.
        x = Due.made("make 0 1;grow 1 5;");
        Due.work(x, "drop 0 1;write 4;", 2);
        Due.changes(x, "1.4 1>0 0", "1.5 1>0 0", "1.6 5>0 0");
        x = Due.made("make 0 1;");
        Due.work(x, "grow 1 5;grow 1 6;write 0;write 6;write 1;crash;drop 0 1;write 4;", 8);
        Due.changes(x, "1.4 1>0 0", "1.5 1>0 0", "1.7 6>0 0");
        Due.call(x, 1, "told", 2);
        // Nine LINKS, nine times.
        x = Due.made("dir 0 1;make 0 2;link 0 3 2;link 0 4 2;link 0 5 2;link 0 6 2;link 0 7 2;link 0 8 2;link 1 1 2;link 1 2 2;");
        Due.work(x, "drop 0 2;drop 0 3;drop 0 4;drop 0 5;drop 0 6;drop 0 7;drop 0 8;drop 1 1;drop 1 2;write 4;", 10);
        Due.call(x, 2, "node", 2, 0, 0);
        Due.call(x, 2, "told", 2);
        Due.work(x, "write 5;", 1);
        Due.call(x, 0, "node", 2, 0, 0);
        Due.call(x, 0, "node", 2, 1, 0);
    }

    // ---- sync, crash, sweep

    @Says("sync, one STEP: each BLOCK that is DIRTY when its turn comes is written, by numbers (REFUSED, if none is DIRTY at first).")
    static void t2_syncOfNoneAndOfWhatGetsDirtyBehindItsTurn() {
        RolledBack x = Due.made("make 0 1;grow 1 5;");
        Due.refused(x, "sync;");
        Due.work(x, "make 0 2;put 1 0 9;sync;", 3);
        // Blocks 1, 4 and 5; NAME goes, for block 1 is written ahead of 4.
        Due.call(x, 3, "told", 4);
        Due.call(x, 0, "told", 5);
        Due.call(x, 0, "told", 1);
        Due.refused(x, "sync;");
        // By block 4 block 1 gets DIRTY, and by block 1 block 0: behind their turns.
        Due.work(x, "drop 0 1;sync;", 2);
        Due.call(x, 4, "told", 4);
        Due.call(x, 2, "told", 3);
        Due.work(x, "sync;", 1);
        Due.call(x, 1, "told", 3);
        Due.work(x, "sync;sync;", 1);
        Due.call(x, 6, "told", 4);
        // FIRST waits for block 5, whose turn comes behind it.
        x = Due.made("make 0 1;");
        Due.work(x, "grow 1 5;sync;", 2);
        Due.call(x, 1, "told", 5);
        Due.call(x, 2, "told", 3);
        // The last block of a small store, and of a large one.
        x = Due.made("size 6;make 0 1;grow 1 5;");
        Due.work(x, "put 1 0 1;sync;", 2);
        Due.call(x, 0, "told", 3);
        x = Due.made("dir 0 1;dir 1 1;dir 2 1;dir 3 1;dir 4 1;dir 5 1;dir 6 1;dir 7 1;dir 8 1;dir 9 1;");
        Due.work(x, "make 10 9;sync;", 2);
        Due.call(x, 0, "told", 3);
        x = Due.made("dir 0 1;dir 1 1;dir 2 1;dir 3 1;dir 4 1;dir 5 1;dir 6 1;dir 7 1;dir 8 1;make 0 9;grow 10 1;grow 10 2;");
        Due.work(x, "put 10 31 9;", 1);
        Due.call(x, 32768, "told", 3);
        Due.work(x, "sync;", 1);
        Due.call(x, 9, "peek", 15, 15, 1);
    }

    @Says("crash: MEMORY is as DISK is; no CHANGE is UNSAFE, nothing is put off any more (never REFUSED).")
    static void t2_crashIsNeverRefused() {
        RolledBack x = new RolledBack();
        Due.work(x, "crash;crash;", 2);
        Due.call(x, 0, "told", 8);
        x = Due.made("make 0 1;grow 1 5;");
        Due.work(x, "drop 0 1;write 4;make 0 2;cut 1;crash;", 4);
        Due.call(x, 1, "told", 8);
        for (int what = 1; what < 4; what++) {
            Due.call(x, 0, "told", what);
        }
        for (int block = 0; block < 16; block++) {
            Due.call(x, 0, "unlike", block);
        }
        Due.call(x, -1, "find", 0, 1, 0);
        Due.call(x, 1, "node", 1, 0, 0);
        Due.call(x, 5, "node", 1, 2, 0);
        // Writes and changes by now are counted on.
        Due.call(x, 1, "told", 4);
        Due.call(x, 7, "told", 9);
    }

    @Says("sweep mends the first thing that it finds, NODES ahead of BLOCKS, by numbers, the root left out (REFUSED, if it finds none):")
    static void t2_sweepMendsOneThingByNumbers() {
        RolledBack x = new RolledBack();
        // No ENTRY names the root, and nothing points to BLOCKS 0 to 3.
        Due.refused(x, "sweep;");
        Due.work(x, "make 0 1;make 0 2;grow 1 5;grow 1 6;write 0;write 1;crash;", 7);
        int[] found = {1, 2, 105, 106};
        for (int what : found) {
            Due.call(x, what, "finds");
            Due.work(x, "sweep;", 1);
        }
        Due.changes(x, "1.4 1>0 0", "1.5 1>0 0", "1.8 1>0 0", "1.9 1>0 0", "0.5 1>0 0", "0.6 1>0 0");
        Due.refused(x, "sweep;");
    }

    @Says({"a NODE whose LINKS are more than ENTRIES with a NAME, of REACHED directories, that name it, and LESSENINGS of it put off, together:",
        "LINKS to as many; are they 0 then, as in LESSENED;"})
    static void t2_sweepOfANodeWithTooManyLinks() {
        RolledBack x = Due.made("make 0 1;link 0 2 1;");
        // As many as there are, with what is put off.
        Due.work(x, "drop 0 2;", 1);
        Due.refused(x, "sweep;");
        x.undo();
        Due.work(x, "link 0 3 1;link 0 4 1;write 1;crash;", 4);
        Due.call(x, 4, "node", 1, 0, 0);
        Due.work(x, "drop 0 2;sweep;", 2);
        Due.changes(x, "4.2 2>0 0", "1.4 4>2 0");
        Due.refused(x, "sweep;");
        Due.work(x, "write 4;", 1);
        Due.changes(x, "1.4 4>2 0", "1.4 2>1 0");
        // To 0: TAG, FIRST and SECOND, and both blocks are freed when that is on DISK.
        x = new RolledBack();
        Due.work(x, "make 0 1;grow 1 5;grow 1 6;write 0;write 5;write 6;write 1;crash;sweep;", 9);
        Due.changes(x, "1.4 1>0 0", "1.5 1>0 0", "1.6 5>0 0", "1.7 6>0 0");
        Due.call(x, 2, "told", 2);
        Due.refused(x, "sweep;");
        Due.work(x, "write 1;", 1);
        Due.changes(x, "0.5 1>0 0", "0.6 1>0 0");
        // What a directory that is not REACHED names does not count.
        x = Due.made("dir 0 1;make 1 2;link 0 3 2;");
        Due.work(x, "drop 1 2;drop 0 1;write 4;crash;sweep;sweep;", 6);
        Due.changes(x, "1.4 1>0 0", "1.5 2>0 0", "1.6 5>0 0", "1.8 2>1 0");
        // So, too, if it stands behind the NODE that it names.
        x = Due.made("make 0 1;dir 0 2;link 2 3 1;");
        Due.work(x, "drop 2 3;drop 0 2;write 4;crash;", 4);
        Due.call(x, 1, "find", 2, 3, 0);
        Due.call(x, 1, "finds");
        Due.work(x, "sweep;", 1);
        Due.changes(x, "1.4 2>1 0");
        // Nor does an ENTRY without a NAME.
        x = Due.made("make 0 1;");
        Due.work(x, "drop 0 1;write 4;crash;", 3);
        Due.call(x, 1, "peek", 4, 1, 0);
        Due.call(x, 1, "finds");
    }

    @Says("a BLOCK from 4 on that is USED, to which no NODE with LINKS points, and of which no freeing is put off: MAP byte to 0.")
    static void t2_sweepOfABlock() {
        RolledBack x = Due.made("make 0 1;grow 1 5;");
        Due.refused(x, "sweep;");
        Due.work(x, "cut 1;", 1);
        // Nothing points to it, but its freeing is put off.
        Due.call(x, 32, "leaks", 0);
        Due.refused(x, "sweep;");
        Due.work(x, "write 1;crash;sweep;", 3);
        Due.changes(x, "0.5 1>0 0");
        Due.call(x, 0, "told", 2);
        // One of the file's SECOND alone; the last block of all.
        x = Due.made("make 0 1;");
        Due.work(x, "grow 1 5;grow 1 6;write 0;write 6;write 1;crash;", 6);
        Due.call(x, 105, "finds");
        Due.work(x, "sweep;sweep;", 1);
        Due.changes(x, "0.5 1>0 0");
        x = Due.made("dir 0 1;dir 1 1;dir 2 1;dir 3 1;dir 4 1;dir 5 1;dir 6 1;dir 7 1;dir 8 1;dir 9 1;");
        Due.work(x, "grow 10 0;write 0;crash;", 3);
        Due.call(x, 115, "finds");
        Due.work(x, "sweep;", 1);
        Due.changes(x, "0.15 1>0 0");
    }
}
