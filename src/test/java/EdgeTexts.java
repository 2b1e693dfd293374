/** The edges of Terms, section 1, and of promises 1 to 6: texts, their FAULTS, the TAPE. */
final class EdgeTexts {
    private static final String ILLEGAL = "IllegalArgumentException";

    private EdgeTexts() { }

    private static String sizes(int many) {
        return "size 9;".repeat(many);
    }

    /** A text without a fault, whatever it answers. */
    private static void sound(String call, String text) {
        RolledBack x = new RolledBack();
        Due.feed(x, text);
        String got = Due.answer(x, call, text.length());
        Due.equal(call + " of '" + text + "' has no FAULT", got.startsWith("-"), false);
        Due.equal("fault() behind '" + text + "'", x.fault(), -1);
    }

    private static void faulty(String call, String text, int want, int place) {
        Due.fault(new RolledBack(), call, text, want, place);
    }

    // ---- Terms, section 1: a STORE

    @Says("A STORE is a text of up to 600 bytes:")
    static void t1_aStoreOfSixHundredBytes() {
        RolledBack x = new RolledBack();
        String text = "make 0 7;" + " ".repeat(584) + "size 9;";
        Due.equal("bytes", text.length(), 600);
        Due.store(x, text, 9);
        Due.call(x, 1, "find", 0, 7, 1);
    }

    @Says("{ CLAUSE \";\" }, at most 60.")
    static void t1_noClauseAndSixtyClauses() {
        RolledBack x = new RolledBack();
        Due.store(x, "", 16);
        Due.store(x, sizes(59) + "make 0 7;", 9);
        Due.call(x, 1, "find", 0, 7, 1);
        Due.store(x, sizes(60), 9);
        Due.store(x, sizes(60) + "   ", 9);
        Due.fault(x, "store", sizes(60) + "make 0 7;", -7, 420);
    }

    @Says("CLAUSE: \"size\" N (6 to 16 BLOCKS; 16 without; the last counts, for all),")
    static void t1_sizeBelowAboveWithoutAndTwice() {
        RolledBack x = new RolledBack();
        Due.fault(x, "store", "size 5;", -8, 5);
        Due.fault(x, "store", "size 0;", -8, 5);
        Due.fault(x, "store", "size 17;", -8, 5);
        Due.store(x, "size 6;", 6);
        Due.call(x, "IndexOutOfBoundsException", "held", 6);
        Due.call(x, 0, "held", 5);
        Due.store(x, "size 16;", 16);
        Due.call(x, 0, "held", 15);
        Due.store(x, "size 9;", 9);
        Due.store(x, "make 0 1;", 16);
        Due.store(x, "size 16;size 7;", 7);
        // For the clauses ahead of it, too: a third directory has no block, or has one.
        Due.store(x, "size 16;dir 0 1;dir 0 2;dir 0 3;size 7;", 7);
        Due.call(x, 2, "under", 0, 1);
        Due.store(x, "size 6;dir 0 1;dir 0 2;dir 0 3;size 8;", 8);
        Due.call(x, 3, "under", 0, 1);
    }

    @Says("or one of the STEPS make, dir, link, grow, put (below):")
    static void t1_otherStepsAreNoClause() {
        for (String step : new String[] {"make 0 1", "dir 0 1", "link 0 1 1", "grow 0 1", "put 1 1 1"}) {
            sound("store", step + ";");
        }
        for (String step : new String[] {"cut 1", "drop 0 1", "write 1", "sync", "crash", "sweep", "again 1[]"}) {
            sound("work", step + ";");
            faulty("store", step + ";", -9, 0);
        }
    }

    @Says("these are done when all CLAUSES are read, in their order,")
    static void t1_clausesAreDoneInOrderWhenAllAreRead() {
        RolledBack x = Due.made("make 0 5;");
        String before = Due.seen(x);
        Due.fault(x, "store", "make 0 1;make 0 2;make", -9, 22);
        Due.equal("what is seen", Due.seen(x), before);
        Due.store(x, "make 0 9;make 0 8;", 16);
        Due.call(x, 1, "find", 0, 9, 1);
        Due.call(x, 2, "find", 0, 8, 1);
        Due.store(x, "grow 1 5;make 0 9;", 16);
        Due.call(x, 0, "node", 1, 2, 1);
        Due.store(x, "make 0 9;grow 1 5;", 16);
        Due.call(x, 5, "node", 1, 2, 1);
    }

    @Says("from the store of section 2 on,")
    static void t1_aStoreBeginsAnew() {
        RolledBack x = Due.made("make 0 1;grow 1 5;dir 0 3;");
        Due.store(x, "make 0 2;", 16);
        Due.call(x, -1, "find", 0, 1, 0);
        Due.call(x, 1, "find", 0, 2, 0);
        Due.call(x, 31, "used", 1);
        Due.store(x, "", 16);
        Due.equal("what is seen", Due.seen(x), Due.seen(new RolledBack()));
    }

    @Says("each as if all were written behind it, as by SETTLE")
    static void t1_eachClauseIsWrittenSoNoneIsOneTooMany() {
        StringBuilder eleven = new StringBuilder();
        for (int k = 0; k < 11; k++) {
            eleven.append("dir ").append(k < 8 ? 0 : 1).append(' ').append(k + 1).append(';');
        }
        // Six changes each: as a WORK, the eleventh finds 60 that are UNSAFE.
        RolledBack x = new RolledBack();
        Due.work(x, eleven.toString(), 10);
        Due.store(x, eleven.toString(), 16);
        Due.call(x, 65535, "used", 1);
        Due.call(x, 11, "under", 0, 1);
    }

    @Says("(one that can't be done is left out);")
    static void t1_aClauseThatCannotBeDoneIsLeftOut() {
        RolledBack x = Due.made("make 0 1;make 0 1;dir 5 1;put 1 0 0;link 0 2 0;grow 9 1;make 0 2;");
        Due.call(x, 2, "under", 0, 1);
        Due.call(x, 2, "find", 0, 2, 1);
        Due.call(x, 31, "used", 1);
        Due.call(x, 0, "told", 8);
    }

    @Says("then DISK is as MEMORY, and nothing is UNSAFE.")
    static void t1_behindAStoreNothingIsUnsafe() {
        RolledBack x = Due.made("dir 0 1;make 1 2;grow 2 9;grow 2 8;put 2 31 7;link 0 3 2;grow 1 0;");
        for (int block = 0; block < 16; block++) {
            Due.call(x, 0, "unlike", block);
        }
        for (int what = 1; what < 4; what++) {
            Due.call(x, 0, "told", what);
        }
        Due.call(x, 7, "peek", 7, 15, 1);
    }

    // ---- Terms, section 1: a WORK and a BOOK

    @Says("WORK is a text of up to 150 bytes: { STEP \";\" }.")
    static void t1_aWorkOfNothingAndOf150Bytes() {
        RolledBack x = new RolledBack();
        Due.work(x, "", 0);
        Due.work(x, "crash;".repeat(25), 25);
        Due.call(x, 25, "told", 6);
        Due.work(x, "sync;".repeat(30), 0);
        Due.call(x, 30, "told", 8);
        Due.work(x, " ".repeat(144) + "crash;", 1);
    }

    /** Each number of a step at its least and most, and beside these; a word, then least and most of each. */
    private static void range(String call, String word, String tail, int... ends) {
        int numbers = ends.length / 2;
        for (int k = 0; k < numbers; k++) {
            int[] tried = {ends[2 * k], ends[2 * k + 1], ends[2 * k] - 1, ends[2 * k + 1] + 1};
            for (int t = 0; t < 4; t++) {
                if (tried[t] < 0) {
                    continue;
                }
                StringBuilder text = new StringBuilder(word);
                int place = 0;
                for (int j = 0; j < numbers; j++) {
                    text.append(' ');
                    place = j == k ? text.length() : place;
                    text.append(j == k ? tried[t] : ends[2 * j]);
                }
                text.append(tail);
                if (t < 2) {
                    sound(call, text.toString());
                } else {
                    faulty(call, text.toString(), -8, place);
                }
            }
        }
    }

    @Says({"STEP (D, M: NODES, 0 to 11; N a NAME, 1 to 99; V 0 to 99; B a BLOCK, 0 to 15):",
        "\"put\" M I V (I 0 to 31),"})
    static void t1_eachNumberOfAStepAtItsEndsAndBesideThem() {
        for (String call : new String[] {"store", "work"}) {
            range(call, "make", ";", 0, 11, 1, 99);
            range(call, "dir", ";", 0, 11, 1, 99);
            range(call, "link", ";", 0, 11, 1, 99, 0, 11);
            range(call, "grow", ";", 0, 11, 0, 99);
            range(call, "put", ";", 0, 11, 0, 31, 0, 99);
        }
        range("work", "cut", ";", 0, 11);
        range("work", "drop", ";", 0, 11, 1, 99);
        range("work", "write", ";", 0, 15);
    }

    @Says({"\"make\" D N, \"dir\" D N, \"link\" D N M, \"grow\" M V,", "\"cut\" M, \"drop\" D N, \"write\" B, \"sync\",",
        "\"crash\", \"sweep\","})
    static void t1_aNumberTooFewOrTooMany() {
        String[] steps = {"make 1 2", "dir 1 2", "link 1 2 3", "grow 1 2", "put 1 2 3", "cut 1", "drop 1 2", "write 1",
            "sync", "crash", "sweep"};
        for (String step : steps) {
            sound("work", step + ";");
            faulty("work", step + " 1;", -9, step.length() + 1);
            if (step.endsWith("1") || step.endsWith("2") || step.endsWith("3")) {
                faulty("work", step.substring(0, step.length() - 2) + ";", -9, step.length() - 2);
            }
        }
    }

    @Says("or \"again\" T \"[\" { STEP \";\" } \"]\" (T 0 to 60).")
    static void t1_againOfNoneOfSixtyAndOfNothing() {
        RolledBack x = new RolledBack();
        Due.work(x, "again 0[crash;];", 0);
        Due.call(x, 0, "told", 6);
        Due.work(x, "again 1[crash;];", 1);
        Due.work(x, "again 60[crash;];", 60);
        Due.work(x, "again 60[];", 0);
        Due.call(x, 0, "told", 8);
        Due.work(x, "again 2[crash;again 3[crash;];crash;];crash;", 11);
        Due.call(x, 72, "told", 6);
        Due.fault(x, "work", "again 61[];", -8, 6);
        Due.fault(x, "work", "again 1[crash];", -9, 13);
        Due.fault(x, "work", "again 1 crash;", -9, 8);
        Due.fault(x, "work", "again 1[crash;]", -9, 15);
        Due.fault(x, "work", "again 1[crash;]];", -9, 15);
    }

    @Says("A BOOK is a text of up to 60 bytes: { P V \";\" }, no P twice: at place P (0 to 15) there is V (0 to 99).")
    static void t1_aBookOfNothingAndOfSixtyBytes() {
        RolledBack x = new RolledBack();
        Due.book(x, "", 0);
        String most = "0 0;1 0;2 0;3 0;4 0;5 0;6 0;7 0;8 0;9 0;10 0;11 0;12 0;13 0;";
        Due.equal("bytes", most.length(), 60);
        Due.book(x, most, 14);
        Due.book(x, "15 99;0 0;", 2);
        range("book", "", ";", 0, 15, 0, 99);
        Due.fault(x, "book", "0 1;15 2;0 3;", -8, 9);
        Due.fault(x, "book", "0 1;0 1;", -8, 4);
        Due.call(x, 2, "told", 7);
    }

    @Says("Numbers: digits, as many as stand there;")
    static void t1_numbersOfManyDigits() {
        RolledBack x = new RolledBack();
        Due.work(x, "make 00000000000000000000000 0000000000000000000000007;", 1);
        Due.call(x, 1, "find", 0, 7, 0);
        // Each would be one that is there, if it ran over.
        for (String number : new String[] {"256", "65536", "4294967296", "18446744073709551616", "100000000000000000000000"}) {
            Due.fault(x, "work", "write " + number + ";", -8, 6);
            Due.fault(x, "book", number + " 0;", -8, 0);
        }
        Due.fault(x, "store", "size 4294967305;", -8, 5);
        Due.fault(x, "work", "make 0 18446744073709551617;", -8, 7);
        // Not 1 and 2.
        Due.fault(x, "work", "make 12;", -8, 5);
        Due.fault(x, "work", "make 01;", -9, 7);
        Due.fault(x, "work", "make -1 2;", -9, 5);
    }

    @Says("WORDS: small letters, as many as stand there;")
    static void t1_wordsOfMoreAndFewerLetters() {
        RolledBack x = new RolledBack();
        Due.work(x, "make0 7;", 1);
        for (String word : new String[] {"makes", "mak", "m", "Make", "makE", "again0", "syncsync", "sweeps", "sizes", "size"}) {
            Due.fault(x, "work", word + " 0 7;", -9, word.equals("again0") ? 7 : 0);
        }
        // What would be a word, were its letters not followed by others.
        Due.fault(x, "work", "crash;syncmake 0 1;", -9, 6);
        Due.fault(x, "store", "sized 9;", -9, 0);
        Due.fault(x, "store", "sizeaaaaaaaaaaaaaaaaaaaaaaaaaaaa 9;", -9, 0);
    }

    @Says("blanks (32) may stand ahead of all these, and at the end.")
    static void t1_blanksAndWhatIsNone() {
        RolledBack x = new RolledBack();
        Due.store(x, "    ", 16);
        Due.work(x, "    ", 0);
        Due.book(x, "    ", 0);
        Due.store(x, "  size  9  ;  make  0  1  ;  ", 9);
        Due.work(x, "  again  2  [  crash  ;  ]  ;  ", 2);
        Due.book(x, "  15  9  ;  ", 1);
        for (char none : new char[] {9, 10, 13, 0, 31, 33, 160, 255}) {
            Due.fault(x, "work", "crash;" + none, -9, 6);
            Due.fault(x, "work", "make" + none + "0 1;", -9, 4);
            Due.fault(x, "work", "make 0" + none + "1;", -9, 6);
        }
        Due.fault(x, "work", "ma ke 0 1;", -9, 0);
        Due.fault(x, "work", "make 1 1 1;", -9, 9);
    }

    // ---- Terms, section 1: FAULTS

    @Says("FAULTS, the first from the left, at its first byte:")
    static void t1_theFirstFaultAtItsFirstByte() {
        RolledBack x = new RolledBack();
        Due.fault(x, "work", "make 0 100;foo;", -8, 7);
        Due.fault(x, "work", "foo;make 0 100;", -9, 0);
        Due.fault(x, "work", "make 12 100;", -8, 5);
        Due.fault(x, "work", "make 0 0 0;", -8, 7);
        Due.fault(x, "work", "    foo;", -9, 4);
        Due.fault(x, "work", "make  0   100;", -8, 10);
        Due.fault(x, "book", "  16 100;", -8, 2);
        Due.fault(x, "store", "size 17", -8, 5);
    }

    @Says("1 what can't stand there (at the length, if the text ends too early);")
    static void t1_aTextThatEndsTooEarly() {
        String whole = "make 0 7;";
        int[] places = {-1, 0, 0, 0, 4, 5, 6, 7, 8};
        for (int n = 1; n < whole.length(); n++) {
            faulty("work", whole.substring(0, n), -9, places[n]);
            faulty("store", whole.substring(0, n), -9, places[n]);
        }
        for (String text : new String[] {"again", "again 1", "again 1 ", "again 1[", "again 1[ ", "again 1[sync", "again 1[sync;",
            "again 1[sync;]", "again 1[again 1[];", "sync", "sync ", "make 0 7  "}) {
            faulty("work", text, -9, text.length());
        }
        for (String text : new String[] {"0", "0 ", "0 1", "0 1 ", "0 1;1"}) {
            faulty("book", text, -9, text.length());
        }
        faulty("work", ";", -9, 0);
        faulty("work", "crash;;", -9, 6);
        faulty("work", "]", -9, 0);
        faulty("work", "7;", -9, 0);
        faulty("book", "0 a;", -9, 2);
        faulty("book", "0 1 2;", -9, 4);
        faulty("book", ";", -9, 0);
    }

    @Says("2 a number that is none such (a P twice in a BOOK);")
    static void t1_aNumberThatIsNoneSuch() {
        faulty("work", "drop 0 0;", -8, 7);
        faulty("work", "put 1 32 1;", -8, 6);
        faulty("store", "size 5;", -8, 5);
        faulty("book", "7 1;07 2;", -8, 4);
        // At the second P, ahead of what stands behind it.
        faulty("book", "7 1;7", -8, 4);
        faulty("book", "7 1;7 100;", -8, 4);
        sound("book", "7 1;8 1;");
    }

    @Says("3 a CLAUSE too many (at its word),")
    static void t1_aClauseTooMany() {
        faulty("store", sizes(60) + "size 9;", -7, 420);
        faulty("store", sizes(60) + "   make 0 100;", -7, 423);
        faulty("store", sizes(60) + "put", -7, 420);
        faulty("store", sizes(80), -7, 420);
        sound("store", sizes(60));
    }

    @Says("or a 7th again that is open at one time (at its word);")
    static void t1_aSeventhAgainThatIsOpen() {
        String six = "again 1[".repeat(6);
        faulty("work", six + "again 1[", -7, 48);
        faulty("work", six + "crash; again 99", -7, 55);
        sound("work", six + "crash;" + "];".repeat(6));
        // More than six, but not open at one time.
        RolledBack x = new RolledBack();
        Due.work(x, "again 1[];".repeat(8), 0);
        Due.work(x, six + "];" + "again 1[crash;];" + "];".repeat(5), 1);
        faulty("work", six + "];" + "again 1[again 1[", -7, 58);
        // Those open in a text with a fault are not open in the next.
        Due.fault(x, "work", six + "foo;", -9, 48);
        Due.fault(x, "work", six + "crash;" + "];".repeat(6), 1, -1);
        Due.fault(x, "work", "again 1[", -9, 8);
        Due.fault(x, "work", "]", -9, 0);
        Due.fault(x, "work", "crash;", 1, -1);
    }

    @Says("of one the least.")
    static void t1_ofTwoFaultsAtOneByteTheLeast() {
        for (String text : new String[] {"cut 0;", "sizes 9;", "9;", ";", "again 1[];"}) {
            faulty("store", sizes(60) + text, -9, 420);
        }
        faulty("work", "again 1[".repeat(6) + "agains 1[", -9, 48);
        faulty("work", "again 1[".repeat(6) + "1[", -9, 48);
    }

    // ---- Promises 1 and 2

    @Says("The STORE of section 2, of 16 BLOCKS.")
    static void p01_aNewObject() {
        RolledBack x = new RolledBack();
        Due.call(x, 16, "told", 0);
        Due.call(x, 31, "used", 0);
        Due.call(x, 31, "used", 1);
        Due.call(x, 0, "peek", 15, 15, 0);
        Due.call(x, "IndexOutOfBoundsException", "peek", 16, 0, 0);
        Due.equal("what is seen", Due.seen(x), Due.seen(Due.made("")));
        // It has no BOOK: no place is in a line, and all that is DIRTY fits.
        Due.call(x, 0, "look", 0);
        Due.call(x, 0, "look", 1);
        Due.work(x, "make 0 7;", 1);
        Due.call(x, 18, "fits");
    }

    @Says("Twenty bytes come on the TAPE, of each number the highest first: how many there are;")
    static void p02_twentyBytesOfEachNumberTheHighestFirst() {
        RolledBack x = new RolledBack();
        // 'crash;' and 'make 0 7;' and five blanks.
        Due.call(x, 20, "feed", 0x63726173, 0x683b6d61, 0x6b652030, 0x20373b20, 0x20202020);
        Due.call(x, 20, "count", 1);
        Due.call(x, 2, "work", 20);
        // The highest bit is one of a byte, and no sign.
        Due.call(x, 20, "feed", 0x63726173, 0x683bff20, -1, Integer.MIN_VALUE, Integer.MAX_VALUE);
        Due.call(x, 40, "feed", 0, 0, 0, 0, 0);
        Due.call(x, -9, "work", 20);
        Due.call(x, 6, "fault");
        Due.call(x, 0, "count", 1);
    }

    @Says("NONE, doing nothing, if there would be more than 600.")
    static void p02_aTapeThatIsFull() {
        RolledBack x = new RolledBack();
        for (int k = 1; k <= 30; k++) {
            // 'size 9;' and blanks.
            Due.call(x, 20 * k, "feed", 0x73697a65, 0x20393b20, 0x20202020, 0x20202020, 0x20202020);
        }
        Due.call(x, -1, "feed", 0, 0, 0, 0, 0);
        Due.call(x, -1, "feed", -1, -1, -1, -1, -1);
        Due.call(x, 600, "count", 1);
        Due.call(x, 9, "store", 600);
        Due.call(x, 20, "feed", 0, 0, 0, 0, 0);
    }

    // ---- Promise 3

    @Says("The first n bytes of the TAPE (empty then) are the STORE")
    static void p03_theFirstBytesAndTheTapeIsEmptyThen() {
        RolledBack x = new RolledBack();
        Due.feed(x, "size 9;make 0 1;size 8;nonsense");
        Due.call(x, 9, "store", 16);
        Due.call(x, 1, "find", 0, 1, 1);
        Due.call(x, 0, "count", 1);
        Due.feed(x, "nonsense");
        Due.call(x, 16, "store", 0);
        Due.call(x, 0, "count", 1);
        Due.call(x, 16, "store", 0);
        Due.feed(x, "size 10;");
        Due.call(x, -9, "store", 7);
        Due.call(x, 7, "fault");
    }

    @Says({"(no BOOK, IMAGES, nothing to undo; no writes, crashes, no CHANGES made or HELD BACK by now):", "how many BLOCKS;"})
    static void p03_whatAStoreForgets() {
        RolledBack x = new RolledBack();
        Due.work(x, "make 0 7;write 4;crash;make 0 8;drop 0 8;", 5);
        Due.work(x, "put 0 0 0;", 0);
        Due.book(x, "0 0;", 1);
        Due.call(x, 1, "image");
        Due.call(x, 2, "image");
        Due.call(x, 1, "told", 8);
        Due.store(x, "size 11;make 0 1;", 11);
        for (int what = 1; what <= 9; what++) {
            Due.call(x, 0, "told", what);
        }
        Due.call(x, 0, "count", 0);
        Due.call(x, 0, "count", 2);
        Due.call(x, -1, "restore");
        Due.call(x, -1, "undo");
        Due.call(x, 1, "find", 0, 1, 0);
        Due.call(x, 1, "image");
    }

    @Says("or the FAULT less 10 (all but the TAPE stays).")
    static void p03_aFaultLeavesAllButTheTape() {
        for (String text : new String[] {"foo;", "size 5;", sizes(61), "size 9;make"}) {
            RolledBack x = Due.made("size 12;make 0 3;");
            Due.work(x, "make 0 7;write 4;crash;make 0 8;drop 0 8;put 0 0 0;", 5);
            Due.book(x, "0 0;1 1;", 2);
            Due.call(x, 1, "image");
            String before = Due.seen(x);
            Due.feed(x, text);
            int got = x.store(text.length());
            Due.equal("'" + text + "' is one", got >= -9 && got <= -7, true);
            Due.equal("what is seen", Due.seen(x), before);
            Due.call(x, 2, "told", 7);
            Due.call(x, 1, "told", 8);
            Due.call(x, 1, "count", 0);
            Due.call(x, 0, "count", 1);
            Due.call(x, 1, "count", 2);
            Due.call(x, 0, "restore");
            Due.call(x, 0, "undo");
        }
    }

    @Says("IllegalArgumentException: n is not 0 to the TAPE's bytes (it stays).")
    static void p03_aLengthBelowZeroOrAboveTheTape() {
        RolledBack x = Due.made("size 12;make 0 3;");
        Due.call(x, ILLEGAL, "store", 1);
        Due.feed(x, "size 9;");
        String before = Due.seen(x);
        for (int n : new int[] {-1, 21, 600, 601, Integer.MIN_VALUE, Integer.MAX_VALUE}) {
            Due.call(x, ILLEGAL, "store", n);
        }
        Due.call(x, 20, "count", 1);
        Due.equal("what is seen", Due.seen(x), before);
        Due.call(x, 7, "status", 1);
        Due.call(x, 9, "store", 7);
        Due.feed(x, "size 8;" + " ".repeat(593));
        Due.call(x, ILLEGAL, "store", 601);
        Due.call(x, 8, "store", 600);
    }

    // ---- Promise 4

    @Says("Likewise WORK (n to 150), which is done:")
    static void p04_aLengthBelowZeroAboveTheTapeOrAbove150() {
        RolledBack x = new RolledBack();
        Due.call(x, ILLEGAL, "work", 1);
        Due.feed(x, "crash;");
        for (int n : new int[] {-1, 21, 150, 151, Integer.MIN_VALUE, Integer.MAX_VALUE}) {
            Due.call(x, ILLEGAL, "work", n);
        }
        Due.call(x, 20, "count", 1);
        Due.call(x, 0, "count", 2);
        Due.call(x, 0, "told", 6);
        Due.call(x, 1, "work", 6);
        Due.call(x, 0, "count", 1);
        Due.call(x, 1, "told", 6);
        Due.feed(x, "crash;" + " ".repeat(154));
        Due.call(x, ILLEGAL, "work", 151);
        Due.call(x, ILLEGAL, "work", 160);
        Due.call(x, 160, "count", 1);
        Due.call(x, 1, "work", 150);
        Due.feed(x, "crash;crash;nonsense");
        Due.call(x, 2, "work", 12);
        Due.feed(x, "nonsense");
        Due.call(x, 0, "work", 0);
        Due.call(x, 0, "count", 1);
    }

    @Says("how many STEPS were done (agains not counted, nor REFUSED ones);")
    static void p04_neitherAgainsNorRefusedOnesAreCounted() {
        RolledBack x = new RolledBack();
        Due.work(x, "again 3[again 2[crash;write 0;];];", 6);
        Due.call(x, 6, "told", 8);
        Due.work(x, "again 5[];", 0);
        Due.call(x, 0, "told", 8);
        Due.work(x, "sync;sweep;cut 0;", 0);
        Due.call(x, 3, "told", 8);
        Due.work(x, "make 0 1;make 0 1;sync;sync;", 2);
    }

    @Says("or the FAULT less 10 (none is);")
    static void p04_aFaultAndNoStepIsDone() {
        RolledBack x = Due.made("make 0 3;");
        Due.work(x, "make 0 7;put 0 0 0;", 1);
        String before = Due.seen(x);
        Due.fault(x, "work", "crash;sync;make 0 8;foo", -9, 20);
        Due.fault(x, "work", "crash;make 0 100;", -8, 13);
        Due.fault(x, "work", "crash;" + "again 1[".repeat(7), -7, 54);
        Due.equal("what is seen", Due.seen(x), before);
        Due.call(x, 1, "count", 2);
        Due.call(x, 0, "count", 1);
        Due.call(x, 1, "told", 8);
        Due.call(x, 0, "undo");
    }

    @Says({"-20 behind the exception, ahead of the FAULT (nothing is read, there is no FAULT, the TAPE is empty then):",
        "16 WORKS are there that were not undone."})
    static void p04_theSeventeenthWork() {
        RolledBack x = new RolledBack();
        Due.fault(x, "work", "foo", -9, 0);
        for (int k = 1; k <= 16; k++) {
            Due.work(x, k == 16 ? "sync;" : "crash;", k == 16 ? 0 : 1);
            Due.call(x, k, "count", 2);
        }
        Due.fault(x, "book", "0", -9, 1);
        String before = Due.seen(x);
        Due.feed(x, "crash;");
        Due.call(x, ILLEGAL, "work", 21);
        Due.call(x, ILLEGAL, "work", -1);
        Due.call(x, ILLEGAL, "work", 151);
        Due.call(x, 1, "fault");
        Due.call(x, 20, "count", 1);
        Due.call(x, -20, "work", 6);
        Due.call(x, -1, "fault");
        Due.call(x, 0, "count", 1);
        Due.feed(x, "foo;");
        Due.call(x, -20, "work", 4);
        Due.call(x, -1, "fault");
        Due.call(x, -20, "work", 0);
        Due.call(x, 16, "count", 2);
        Due.call(x, 1, "told", 8);
        Due.equal("what is seen", Due.seen(x), before);
        // One that is undone makes room for one.
        Due.call(x, 15, "undo");
        Due.work(x, "crash;", 1);
        Due.work(x, "crash;", -20);
        // A STORE makes room for all, and a BOOK needs none.
        Due.book(x, "0 0;", 1);
        Due.store(x, "", 16);
        Due.work(x, "crash;", 1);
    }

    // ---- Promises 5 and 6

    @Says("Likewise the BOOK (n to 60): how many lines.")
    static void p05_aLengthBelowZeroAboveTheTapeOrAboveSixty() {
        RolledBack x = new RolledBack();
        Due.call(x, ILLEGAL, "book", 1);
        Due.feed(x, "3 4;");
        for (int n : new int[] {-1, 21, 60, 61, Integer.MIN_VALUE, Integer.MAX_VALUE}) {
            Due.call(x, ILLEGAL, "book", n);
        }
        Due.call(x, 20, "count", 1);
        Due.call(x, 0, "told", 7);
        Due.call(x, 1, "book", 4);
        Due.call(x, 0, "count", 1);
        Due.feed(x, "3 4;5 6;" + " ".repeat(72));
        Due.call(x, ILLEGAL, "book", 61);
        Due.call(x, 80, "count", 1);
        Due.call(x, 2, "book", 60);
        Due.feed(x, "nonsense");
        Due.call(x, 0, "book", 0);
        Due.call(x, 0, "count", 1);
    }

    @Says("Likewise the BOOK (n to 60): how many lines.")
    static void p05_aFaultLeavesTheBookAndABookTakesItsPlace() {
        RolledBack x = Due.made("make 0 1;grow 1 9;");
        Due.work(x, "put 1 0 8;", 1);
        Due.book(x, "0 8;", 1);
        Due.call(x, 32, "fits");
        Due.fault(x, "book", "0 1;1 1;x", -9, 8);
        Due.fault(x, "book", "0 1;0 1;", -8, 4);
        Due.call(x, 0, "count", 1);
        Due.call(x, 1, "told", 7);
        Due.call(x, 32, "fits");
        // The lines of old are gone.
        Due.book(x, "1 9;", 1);
        Due.call(x, 32, "fits");
        Due.book(x, "1 8;", 1);
        Due.call(x, 0, "fits");
        Due.book(x, "", 0);
        Due.call(x, 32, "fits");
        Due.call(x, 1, "count", 2);
    }

    @Says("The place of the FAULT of the latest text; NONE without.")
    static void p06_ofTheLatestTextAlone() {
        RolledBack x = new RolledBack();
        Due.call(x, -1, "fault");
        Due.fault(x, "work", "sync", -9, 4);
        Due.fault(x, "book", "0 100;", -8, 2);
        Due.fault(x, "store", "", 16, -1);
        Due.fault(x, "store", " x", -9, 1);
        Due.fault(x, "work", "sync;", 0, -1);
        Due.fault(x, "book", "0 1;0 1;", -8, 4);
        // These are no texts.
        Due.call(x, ILLEGAL, "book", 1);
        Due.call(x, ILLEGAL, "work", 1);
        Due.call(x, ILLEGAL, "store", 1);
        Due.call(x, 0, "undo");
        Due.call(x, 1, "image");
        Due.call(x, 0, "restore");
        Due.feed(x, "sync;");
        Due.call(x, 4, "fault");
        Due.fault(x, "book", "", 0, -1);
        // The longest text, with its fault at the end.
        Due.fault(x, "store", " ".repeat(599) + "x", -9, 599);
        Due.fault(x, "store", " ".repeat(594) + "size 9", -9, 600);
    }
}
