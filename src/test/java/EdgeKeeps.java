/** The edges of promises 7 and 35 to 38: what is undone, kept and counted. */
final class EdgeKeeps {
    private static final String[] TEXTS = {"make 0 1;grow 1 5;", "", "write 0;write 1;", "sync;drop 0 1;", "write 4;write 1;",
        "crash;sweep;", "dir 0 2;make 2 3;sync;", "sync;", "crash;", "make 0 4;write 4;", "drop 0 4;", "sync;cut 1;", "   ",
        "link 0 7 1;", "again 60[crash;crash;crash;crash;];", "make 0 9;"};

    private EdgeKeeps() { }

    private static void run(RolledBack x, String text) {
        Due.feed(x, text);
        x.work(text.length());
    }

    /** Changes that need all of a block, and things put off until changes that are not the first. */
    private static RolledBack tangled() {
        RolledBack x = Due.made("make 0 1;grow 1 0;make 0 2;grow 2 6;make 0 3;");
        Due.work(x, "put 1 0 5;put 1 0 0;cut 1;write 1;dir 0 4;drop 0 3;cut 2;drop 0 2;", 8);
        return x;
    }

    private static void isTangled(RolledBack x) {
        Due.changes(x, "5.0 0>5 0", "5.0 5>0 0", "0.5 1>0 0", "2.0 0>1 0", "2.1 0>2 0", "0.5 0>1 0", "2.2 0>5 3", "4.7 0>4 0",
            "4.6 0>4 4", "4.4 3>0 0", "1.10 6>0 0", "4.2 2>0 0");
        Due.call(x, 33, "waits", 2);
        Due.call(x, 3, "told", 2);
        // What is put off is done when its own change goes, and not ahead of that.
        Due.work(x, "write 1;", 1);
        Due.call(x, 2, "told", 2);
        Due.work(x, "write 4;", 1);
        Due.changes(x, "5.0 0>5 0", "5.0 5>0 0", "0.5 1>0 0", "2.0 0>1 0", "2.1 0>2 0", "0.5 0>1 0", "2.2 0>5 3", "4.6 0>4 3",
            "0.6 1>0 0", "1.12 1>0 0", "1.13 1>0 0", "1.8 1>0 0", "1.9 1>0 0");
        Due.call(x, 0, "told", 2);
        // FIRST needs both changes of BLOCK 5.
        Due.work(x, "write 0;", 1);
        Due.call(x, 1, "held", 2);
        Due.work(x, "write 5;", 1);
        Due.call(x, 0, "held", 2);
        for (int k = 0; k < 4; k++) {
            x.undo();
        }
    }

    @Says("The latest WORK that was done (of no STEPS, too) is undone (DISK, too): how many are left;")
    static void p07_whatIsNeededAndWhatIsPutOffIsUndoneToo() {
        RolledBack x = tangled();
        isTangled(x);
        Due.work(x, "write 5;write 0;make 0 9;grow 1 3;drop 0 1;cut 1;", 6);
        Due.work(x, "sync;sync;sync;dir 0 8;drop 0 9;", 5);
        Due.call(x, 2, "undo");
        Due.call(x, 1, "undo");
        isTangled(x);
    }

    @Says("An IMAGE of all that WORK changes, and of WORKS that can be undone: how many there are;")
    static void p35_whatIsNeededAndWhatIsPutOffIsKeptToo() {
        RolledBack x = tangled();
        Due.call(x, 1, "image");
        Due.work(x, "write 5;write 0;make 0 9;grow 1 3;drop 0 1;cut 1;", 6);
        Due.call(x, 2, "image");
        Due.work(x, "sync;sync;sync;dir 0 8;drop 0 9;", 5);
        Due.call(x, 1, "restore");
        Due.call(x, 0, "restore");
        isTangled(x);
    }

    @Says("The latest WORK that was done (of no STEPS, too) is undone (DISK, too): how many are left;")
    static void p07_sixteenWorksOneByOne() {
        RolledBack x = new RolledBack();
        String[] seen = new String[16];
        for (int k = 0; k < 16; k++) {
            seen[k] = Due.seen(x);
            run(x, TEXTS[k]);
            Due.call(x, k + 1, "count", 2);
        }
        Due.work(x, "crash;", -20);
        for (int k = 15; k >= 0; k--) {
            Due.call(x, k, "undo");
            Due.equal("what is seen ahead of work " + k, Due.seen(x), seen[k]);
            Due.call(x, 0, "told", 8);
        }
        Due.call(x, -1, "undo");
        // Of no STEPS, and of refused ones alone.
        Due.work(x, "", 0);
        Due.work(x, "sync;", 0);
        Due.call(x, 1, "undo");
        Due.call(x, 0, "undo");
        // DISK, too, and what was counted.
        Due.work(x, "make 0 1;write 4;sync;crash;", 4);
        Due.call(x, 1, "find", 0, 1, 1);
        Due.call(x, 0, "undo");
        Due.equal("what is seen", Due.seen(x), Due.seen(new RolledBack()));
    }

    @Says("-1: there is none.")
    static void p07_thereIsNone() {
        RolledBack x = Due.made("make 0 1;");
        String before = Due.seen(x);
        Due.call(x, -1, "undo");
        // A text with a FAULT is no WORK, nor is a BOOK or one that is refused.
        Due.fault(x, "work", "crash;foo", -9, 6);
        Due.book(x, "0 0;", 1);
        Due.call(x, "IllegalArgumentException", "work", 1);
        Due.call(x, -1, "undo");
        Due.equal("what is seen", Due.seen(x), before);
        Due.call(x, 1, "told", 7);
        Due.call(x, 0, "count", 2);
        // What a STORE made is not undone.
        Due.work(x, "crash;", 1);
        Due.call(x, 0, "undo");
        Due.call(x, -1, "undo");
        Due.call(x, 1, "find", 0, 1, 1);
    }

    @Says("An IMAGE of all that WORK changes, and of WORKS that can be undone: how many there are;")
    static void p35_anImageOfAllAndOfSixteenWorks() {
        RolledBack x = new RolledBack();
        String[] seen = new String[17];
        for (int k = 0; k < 16; k++) {
            seen[k] = Due.seen(x);
            run(x, TEXTS[k]);
        }
        seen[16] = Due.seen(x);
        Due.call(x, 1, "image");
        for (int k = 15; k >= 8; k--) {
            Due.call(x, k, "undo");
        }
        // Other works in the place of those undone.
        for (int k = 8; k < 16; k++) {
            Due.work(x, "crash;", 1);
        }
        Due.call(x, 2, "image");
        Due.call(x, 1, "restore");
        Due.call(x, 16, "count", 2);
        Due.call(x, 0, "restore");
        Due.equal("what is seen", Due.seen(x), seen[16]);
        Due.work(x, "crash;", -20);
        for (int k = 15; k >= 0; k--) {
            Due.call(x, k, "undo");
            Due.equal("what is seen ahead of work " + k, Due.seen(x), seen[k]);
        }
    }

    @Says("-1: there are 3.")
    static void p35_thereAreThree() {
        RolledBack x = new RolledBack();
        for (int k = 1; k <= 3; k++) {
            Due.work(x, "make 0 " + k + ";", 1);
            Due.call(x, k, "image");
            Due.call(x, k, "count", 0);
        }
        Due.work(x, "make 0 4;", 1);
        Due.call(x, -1, "image");
        Due.call(x, 3, "count", 0);
        // The third is as it was; one that is gone makes room for one.
        Due.call(x, 2, "restore");
        Due.call(x, -1, "find", 0, 4, 0);
        Due.call(x, 3, "find", 0, 3, 0);
        Due.call(x, 3, "image");
        Due.call(x, -1, "image");
        Due.store(x, "", 16);
        Due.call(x, 1, "image");
    }

    @Says("All that is as in the latest IMAGE, which is gone: how many are left;")
    static void p36_theLatestFirst() {
        RolledBack x = Due.made("size 8;make 0 1;grow 1 5;");
        String[] seen = new String[3];
        for (int k = 0; k < 3; k++) {
            run(x, TEXTS[k + 3]);
            seen[k] = Due.seen(x);
            Due.call(x, k + 1, "image");
        }
        Due.work(x, "crash;make 0 7;sync;sync;put 0 0 0;", 3);
        for (int k = 2; k >= 0; k--) {
            Due.call(x, k, "restore");
            Due.call(x, k, "count", 0);
            Due.call(x, k + 1, "count", 2);
            Due.call(x, 0, "told", 8);
            Due.equal("image " + k, Due.seen(x), seen[k]);
            Due.work(x, "crash;sync;", 1);
        }
        Due.call(x, 1, "undo");
        Due.equal("what is seen", Due.seen(x), seen[0]);
    }

    @Says("-1: there is none.")
    static void p36_thereIsNone() {
        RolledBack x = Due.made("make 0 1;");
        Due.work(x, "make 0 2;sync;sync;", 2);
        String before = Due.seen(x);
        Due.call(x, -1, "restore");
        Due.equal("what is seen", Due.seen(x), before);
        Due.call(x, 1, "count", 2);
        Due.call(x, 1, "told", 8);
        Due.call(x, 1, "image");
        Due.call(x, 0, "restore");
        Due.call(x, -1, "restore");
        // A STORE leaves none.
        Due.call(x, 1, "image");
        Due.store(x, "", 16);
        Due.call(x, -1, "restore");
        Due.call(x, 31, "used", 0);
    }

    @Says({"How many calls were refused: 0 NoSuchElementException, 1 IllegalArgumentException, 2 NullPointerException, 3 IndexOutOfBoundsException;",
        "NONE for others."})
    static void p37_callsThatWereRefused() {
        RolledBack x = new RolledBack();
        for (int what = 0; what < 4; what++) {
            Due.call(x, 0, "status", what);
        }
        String[] calls = {"room 12", "node 12 9 9", "span 0 9 9 9 9 12", "told 10", "store 1", "work 1", "book 1", "find 0 0 0",
            "change 0 0", "change 255 0", "change 256 0", "peek 16 16 0", "held 16", "copy 0 16", "owner 16 0"};
        int[] kinds = {0, 0, 0, 1, 1, 1, 1, 1, 2, 2, 3, 3, 3, 3, 3};
        int[] due = new int[4];
        for (int k = 0; k < calls.length; k++) {
            String[] words = calls[k].split(" ");
            int[] args = new int[words.length - 1];
            for (int j = 0; j < args.length; j++) {
                args[j] = Integer.parseInt(words[j + 1]);
            }
            Due.answer(x, words[0], args);
            due[kinds[k]]++;
            // One call counts once, whatever else of it is wrong.
            for (int what = 0; what < 4; what++) {
                Due.equal("status(" + what + ") behind " + calls[k], x.status(what), due[what]);
            }
        }
        for (int what : new int[] {-1, 4, Integer.MIN_VALUE, Integer.MAX_VALUE}) {
            Due.call(x, -1, "status", what);
        }
        // Calls that answer NONE, -1, -20 or a FAULT were not refused; nor are STEPS calls.
        Due.call(x, -1, "restore");
        Due.call(x, -1, "undo");
        Due.work(x, "sync", -9);
        Due.work(x, "sync;", 0);
        Due.call(x, -1, "count", 9);
        for (int what = 0; what < 4; what++) {
            Due.call(x, due[what], "status", what);
        }
    }

    @Says("(No IMAGE keeps it.)")
    static void p37_noImageKeepsIt() {
        RolledBack x = new RolledBack();
        Due.call(x, "IllegalArgumentException", "told", 10);
        Due.work(x, "crash;", 1);
        Due.call(x, 1, "image");
        Due.call(x, "IllegalArgumentException", "told", 10);
        Due.call(x, "NoSuchElementException", "room", 12);
        Due.call(x, 0, "restore");
        Due.call(x, 2, "status", 1);
        Due.call(x, 1, "status", 0);
        Due.call(x, 0, "undo");
        Due.store(x, "", 16);
        Due.call(x, 2, "status", 1);
        Due.call(x, 1, "status", 0);
    }

    @Says("0 IMAGES, 1 bytes of the TAPE, 2 WORKS that can be undone; NONE for others.")
    static void p38_countOfNoneAndOfAll() {
        RolledBack x = new RolledBack();
        for (int what = 0; what < 3; what++) {
            Due.call(x, 0, "count", what);
        }
        for (int k = 0; k < 17; k++) {
            run(x, "crash;");
        }
        for (int k = 0; k < 4; k++) {
            x.image();
        }
        for (int k = 0; k < 31; k++) {
            x.feed(0, 0, 0, 0, 0);
        }
        int[] full = {3, 600, 16};
        for (int what = 0; what < 3; what++) {
            Due.call(x, full[what], "count", what);
        }
        for (int what : new int[] {-1, 3, Integer.MIN_VALUE, Integer.MAX_VALUE}) {
            Due.call(x, -1, "count", what);
        }
        Due.call(x, 16, "store", 0);
        for (int what = 0; what < 3; what++) {
            Due.call(x, 0, "count", what);
        }
    }
}
