/** Promises 1 to 6: a new object, the tape, the three kinds of text, and their faults. */
public final class TextTest {
    private static void newObject() {
        RolledBack x = new RolledBack();
        Due.equal("NONE", RolledBack.NONE, -1);
        for (int where = 0; where < 2; where++) {
            for (int block = 0; block < 16; block++) {
                for (int place = 0; place < 16; place++) {
                    int want = block == 0 && place <= 4 ? 1 : 0;
                    if (block == 1 && place < 3) {
                        want = new int[] {1, 2, 4}[place];
                    }
                    Due.call(x, want, "peek", block, place, where);
                }
            }
        }
        for (int what = 1; what < 10; what++) {
            Due.call(x, 0, "told", what);
        }
        Due.call(x, 16, "told", 0);
        for (int what = 0; what < 3; what++) {
            Due.call(x, 0, "count", what);
        }
        Due.call(x, -1, "fault");
        Due.call(x, -1, "undo");
        Due.call(x, -1, "restore");
    }

    private static void tape() {
        RolledBack x = new RolledBack();
        for (int k = 1; k <= 30; k++) {
            Due.call(x, 20 * k, "feed", 0x73697a65, 0x20393b20, 0x20202020, 0x20202020, 0x20202020);
        }
        Due.call(x, -1, "feed", 0, 0, 0, 0, 0);
        Due.call(x, 600, "count", 1);
        Due.call(x, "IllegalArgumentException", "store", 601);
        Due.call(x, "IllegalArgumentException", "store", -1);
        Due.call(x, 600, "count", 1);
        Due.call(x, 9, "store", 600);
        Due.call(x, 0, "count", 1);
        Due.call(x, 20, "feed", 0x73697a65, 0x20313020, 0x3b000000, 0, 0);
        Due.call(x, "IllegalArgumentException", "store", 21);
        Due.call(x, 10, "store", 9);
        Due.call(x, 0, "count", 1);
        Due.call(x, "IllegalArgumentException", "store", 1);
        Due.call(x, 16, "store", 0);
        Due.call(x, 20, "feed", -1, -2, -3, -4, -5);
        Due.call(x, -9, "work", 20);
        Due.call(x, 0, "fault");
    }

    private static void stores() {
        RolledBack x = new RolledBack();
        Due.store(x, "size 7;dir 0 1;dir 0 2;dir 0 3;size 6;", 6);
        Due.call(x, 63, "used", 0);
        Due.call(x, 63, "used", 1);
        Due.call(x, -1, "find", 0, 2, 0);
        Due.store(x, "size 6;dir 0 1;dir 0 2;dir 0 3; size 007 ;  ", 7);
        Due.call(x, 127, "used", 1);
        Due.call(x, 2, "find", 0, 2, 1);
        Due.call(x, -1, "find", 0, 3, 1);
        Due.call(x, 0, "told", 9);
        Due.call(x, 0, "told", 4);
        Due.call(x, 0, "told", 1);
        StringBuilder many = new StringBuilder();
        for (int k = 0; k < 60; k++) {
            many.append("size 9;");
        }
        Due.store(x, many + " ", 9);
        Due.fault(x, "store", many + " put", -7, 421);
        Due.fault(x, "store", many + " cut 0;", -9, 421);
        Due.fault(x, "store", many + "9", -9, 420);
        Due.call(x, 9, "told", 0);
        // More than 60 changes in all: each is written behind its clause, so none is refused.
        StringBuilder full = new StringBuilder("make 0 1;grow 1 5;");
        for (int k = 0; k < 32; k++) {
            full.append("put 1 ").append(k).append(" 9;");
        }
        full.append("grow 1 6;make 0 2;grow 2 7;");
        for (int k = 0; k < 16; k++) {
            full.append("put 2 ").append(k).append(" 8;");
        }
        Due.store(x, full.toString(), 16);
        Due.call(x, 9, "peek", 5, 15, 1);
        // SECOND was not there yet when the later places were put.
        Due.call(x, 6, "peek", 6, 0, 1);
        Due.call(x, 8, "peek", 7, 15, 0);
    }

    private static void storeForgets() {
        RolledBack x = new RolledBack();
        Due.work(x, "make 0 7;write 4;crash;make 0 1;sync;make 0 2;put 0 0 1;", 6);
        Due.book(x, "0 1;", 1);
        Due.call(x, 1, "image");
        Due.fault(x, "store", "size 5;", -8, 5);
        Due.call(x, 1, "told", 8);
        Due.call(x, 1, "told", 6);
        Due.call(x, 1, "told", 7);
        Due.call(x, 1, "count", 0);
        Due.call(x, 1, "count", 2);
        Due.call(x, 4, "told", 1);
        Due.store(x, "", 16);
        for (int what = 1; what < 10; what++) {
            Due.call(x, 0, "told", what);
        }
        for (int what = 0; what < 3; what++) {
            Due.call(x, 0, "count", what);
        }
        Due.call(x, -1, "fault");
    }

    private static void storeFaults() {
        RolledBack x = new RolledBack();
        Due.fault(x, "store", "size", -9, 4);
        Due.fault(x, "store", "size ;", -9, 5);
        Due.fault(x, "store", "size 99999999999999999999;", -8, 5);
        Due.fault(x, "store", "size 9 9;", -9, 7);
        Due.fault(x, "store", "size 9;;", -9, 7);
        Due.fault(x, "store", ";", -9, 0);
        Due.fault(x, "store", "Size 9;", -9, 0);
        Due.fault(x, "store", "siz e 9;", -9, 0);
        Due.fault(x, "store", "size\t9;", -9, 4);
        Due.fault(x, "store", "size -9;", -9, 5);
        for (String word : new String[] {"cut 0", "drop 0 1", "write 1", "sync", "crash", "sweep", "again 1 []"}) {
            Due.fault(x, "store", " " + word + ";", -9, 1);
        }
        Due.fault(x, "store", "make 0 1;dir 0", -9, 14);
        Due.fault(x, "store", "link 0 1 99 x", -8, 9);
        Due.call(x, 16, "told", 0);
        Due.call(x, -1, "find", 0, 1, 0);
    }

    private static void works() {
        RolledBack x = new RolledBack();
        Due.work(x, "make0 1;make  0  002  ;  again 2[make 0 3;make 0 4;];  ", 4);
        Due.call(x, 2, "told", 8);
        Due.call(x, -1, "fault");
        Due.work(x, "", 0);
        Due.call(x, 0, "told", 8);
        Due.work(x, "   ", 0);
        Due.work(x, "again 0[crash;crash;];", 0);
        Due.call(x, 0, "told", 6);
        Due.work(x, "again 1[again 1[again 1[again 1[again 1[again 2[crash;];];];];];];again 1[];", 2);
        Due.work(x, "again 60[again 3[crash;];];", 149);
        Due.call(x, 151, "told", 6);
        Due.work(x, "again 60[crash;write 15;crash;crash;];make 0 1;", 149);
        Due.call(x, 50, "told", 8);
        Due.call(x, 0, "told", 1);
        Due.call(x, 7, "count", 2);
        Due.feed(x, " ".repeat(151));
        Due.call(x, 160, "count", 1);
        Due.call(x, "IllegalArgumentException", "work", 151);
        Due.call(x, "IllegalArgumentException", "work", -1);
        Due.call(x, "IllegalArgumentException", "book", 61);
        Due.call(x, 160, "count", 1);
        Due.call(x, 0, "work", 150);
        Due.call(x, "IllegalArgumentException", "work", 1);
    }

    private static void workFaults() {
        RolledBack x = new RolledBack();
        Due.fault(x, "work", "make 0 7", -9, 8);
        Due.fault(x, "work", "make 0 7   ", -9, 11);
        Due.fault(x, "work", "make 0;", -9, 6);
        Due.fault(x, "work", "make 12 0", -8, 5);
        Due.fault(x, "work", "make 0 4294967297;", -8, 7);
        Due.fault(x, "work", "dir 0 100;", -8, 6);
        Due.fault(x, "work", "link 0 1 12;", -8, 9);
        Due.fault(x, "work", "grow 0 100;", -8, 7);
        Due.fault(x, "work", "put 0 32 0;", -8, 6);
        Due.fault(x, "work", "put 0 31 100;", -8, 9);
        Due.fault(x, "work", "cut 12;", -8, 4);
        Due.fault(x, "work", "drop 0 0;", -8, 7);
        Due.fault(x, "work", "write 16;", -8, 6);
        Due.fault(x, "work", "size 9;", -9, 0);
        Due.fault(x, "work", "crash;]", -9, 6);
        Due.fault(x, "work", "again 1 [sync;", -9, 14);
        Due.fault(x, "work", "again 1 [sync;  ", -9, 16);
        Due.fault(x, "work", "again 1 sync;", -9, 8);
        Due.fault(x, "work", "again 1 [sync;]", -9, 15);
        Due.fault(x, "work", "again 1 [sync];", -9, 13);
        Due.fault(x, "work", "again 1 [;];", -9, 9);
        Due.fault(x, "work", "again [];", -9, 6);
        Due.fault(x, "work", "again 61[];", -8, 6);
        Due.fault(x, "work", "sync 1;", -9, 5);
        Due.fault(x, "work", "syncsync;", -9, 0);
        String six = "again 1[".repeat(6);
        Due.fault(x, "work", six + "again 99[", -7, 48);
        Due.fault(x, "work", six + "agains 1[", -9, 48);
        Due.fault(x, "work", six, -9, 48);
        Due.work(x, six + "];".repeat(6) + "again 1[again 1[];];", 0);
        Due.call(x, 1, "count", 2);
        Due.call(x, 0, "told", 6);
    }

    private static void books() {
        RolledBack x = new RolledBack();
        Due.book(x, "0 0;1 0;2 0;3 0;4 0;5 0;6 0;7 0;8 0;9 0;10 0;11 0;12 0;13 0;", 14);
        Due.call(x, 14, "told", 7);
        Due.fault(x, "book", "1 2;01 3;", -8, 4);
        Due.fault(x, "book", "0 1;0 x", -8, 4);
        Due.fault(x, "book", "16 100", -8, 0);
        Due.fault(x, "book", "15 100", -8, 3);
        Due.fault(x, "book", "15;", -9, 2);
        Due.fault(x, "book", "15 9", -9, 4);
        Due.fault(x, "book", "a 9;", -9, 0);
        Due.fault(x, "book", ";", -9, 0);
        Due.call(x, 14, "told", 7);
        Due.book(x, "  15 099 ;7 0;", 2);
        Due.call(x, -1, "fault");
        Due.book(x, "", 0);
        Due.call(x, 0, "told", 7);
        Due.call(x, 0, "count", 2);
    }

    private static void faultPlaces() {
        RolledBack x = new RolledBack();
        Due.fault(x, "work", "sync", -9, 4);
        Due.call(x, "IllegalArgumentException", "work", 1);
        Due.call(x, 4, "fault");
        Due.call(x, -1, "undo");
        Due.call(x, 4, "fault");
        Due.book(x, "0 0;", 1);
        Due.call(x, -1, "fault");
        for (int k = 0; k < 15; k++) {
            Due.work(x, "", 0);
        }
        Due.work(x, "put 0 0 0;", 0);
        Due.fault(x, "book", "0", -9, 1);
        Due.feed(x, "nonsense");
        Due.call(x, "IllegalArgumentException", "work", 21);
        Due.call(x, 20, "count", 1);
        Due.call(x, -20, "work", 8);
        Due.call(x, 0, "count", 1);
        Due.call(x, -1, "fault");
        Due.call(x, 1, "told", 8);
        Due.call(x, 16, "count", 2);
        Due.call(x, 15, "undo");
        Due.work(x, "crash;", 1);
        Due.call(x, 16, "count", 2);
    }

    public static void main(String[] args) {
        newObject();
        tape();
        stores();
        storeForgets();
        storeFaults();
        works();
        workFaults();
        books();
        faultPlaces();
        Due.end();
    }
}
