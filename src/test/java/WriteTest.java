/** Promises 4, 8 and 18 to 25: writes, what is held back and rolled back, who waits, what is left to write. */
public final class WriteTest {
    private static void rolledBackLatestFirst() {
        RolledBack x = new RolledBack();
        Due.work(x, "make 0 7;drop 0 7;make 0 8;", 3);
        Due.call(x, 9, "told", 1);
        Due.call(x, 4, "held", 4);
        Due.call(x, 0, "held", 1);
        Due.call(x, 0, "copy", 4, 0);
        Due.call(x, 1, "copy", 4, 1);
        int[] goes = {1, 1, 1, 0, 0, 1, 1, 0, 0};
        for (int k = 0; k < goes.length; k++) {
            Due.call(x, goes[k], "change", k, 5);
        }
        Due.call(x, 2, "waits", 4);
        Due.call(x, 0, "waits", 1);
        Due.work(x, "write 4;write 4;", 2);
        Due.call(x, 2, "told", 4);
        Due.call(x, 8, "told", 5);
        Due.call(x, 8, "told", 1);
        Due.call(x, 18, "told", 3);
        Due.call(x, 0, "peek", 4, 0, 1);
        Due.call(x, 1, "peek", 4, 1, 1);
        Due.call(x, 8, "peek", 4, 0, 0);
        Due.call(x, 2, "peek", 4, 1, 0);
        Due.work(x, "write 1;write 4;", 2);
        Due.call(x, 8, "told", 5);
        Due.call(x, 2, "told", 1);
        Due.call(x, 0, "told", 2);
        Due.call(x, 2, "find", 0, 8, 1);
        Due.call(x, 0, "node", 1, 0, 0);
        Due.call(x, 1, "node", 1, 0, 1);
    }

    private static void wipeRolledBack() {
        RolledBack x = new RolledBack();
        Due.store(x, "dir 0 1;make 0 2;make 0 3;", 16);
        Due.work(x, "make 1 2;drop 1 2;drop 0 1;write 4;write 1;grow 2 9;", 6);
        int[] goes = {1, 1, 1, 0, 0, 1, 1, 0, 0};
        for (int k = 0; k < goes.length; k++) {
            Due.call(x, goes[k], "change", k, 5);
        }
        Due.call(x, 16, "change", 7, 1);
        Due.call(x, 0, "change", 7, 2);
        Due.call(x, 9, "change", 7, 3);
        Due.call(x, 3, "held", 5);
        for (int place = 0; place < 16; place++) {
            Due.call(x, place == 1 ? 4 : 0, "copy", 5, place);
            Due.call(x, 9, "peek", 5, place, 0);
        }
        Due.call(x, 4, "waits", 5);
        Due.call(x, 33, "waits", 1);
        Due.call(x, 6, "settle");
        Due.call(x, -1, "fewest");
        int before = x.told(5);
        Due.work(x, "write 5;", 1);
        Due.call(x, before + 3, "told", 5);
        Due.call(x, 4, "peek", 5, 1, 1);
        Due.call(x, 0, "peek", 5, 2, 1);
        Due.work(x, "write 2;write 5;", 2);
        Due.call(x, 9, "peek", 5, 0, 1);
        Due.call(x, 0, "node", 4, 0, 0);
        Due.call(x, 1, "node", 4, 0, 1);
        Due.call(x, 0, "held", 1 + 1);
    }

    private static void ring() {
        RolledBack x = new RolledBack();
        Due.store(x, "make 0 1;link 0 2 1;link 0 3 1;link 0 4 1;link 0 5 1;link 0 6 1;link 0 7 1;link 0 8 1;grow 1 9;", 16);
        Due.work(x, "cut 1;write 1;write 0;grow 0 3;make 0 9;", 5);
        Due.call(x, 1, "rings");
        Due.call(x, 33, "waits", 1);
        Due.call(x, 2, "waits", 5);
        Due.call(x, 0, "waits", 0);
        Due.call(x, 4, "settle");
        Due.call(x, 4, "fewest");
        Due.work(x, "write 5;", 1);
        Due.call(x, 0, "rings");
        Due.call(x, 1, "waits", 1);
        Due.call(x, 2, "waits", 5);
        Due.call(x, 3, "fewest");
        // Two twos: both blocks that the directories took wait for the nodes, and these for them.
        x = new RolledBack();
        Due.store(x, "make 0 1;link 0 2 1;link 0 3 1;link 0 4 1;link 0 5 1;link 0 6 1;link 0 7 1;dir 0 8;grow 1 9;grow 1 9;", 16);
        Due.work(x, "cut 1;cut 1;write 1;write 0;grow 0 0;dir 0 9;link 3 1 1;", 7);
        Due.call(x, 2, "rings");
    }

    private static void writesRefused() {
        RolledBack x = new RolledBack();
        Due.store(x, "size 8;make 0 1;grow 1 5;", 8);
        Due.work(x, "write 0;write 8;write 15;sync;", 0);
        Due.call(x, 4, "told", 8);
        Due.call(x, 0, "told", 4);
        Due.work(x, "put 1 3 9;sync;", 2);
        Due.call(x, 1, "told", 4);
        Due.call(x, 9, "peek", 5, 3, 1);
        Due.work(x, "sync;", 0);
    }

    private static void syncByNumbers() {
        RolledBack x = new RolledBack();
        Due.store(x, "make 0 1;grow 1 5;", 16);
        Due.work(x, "drop 0 1;", 1);
        Due.call(x, 3, "settle");
        Due.call(x, 3, "fewest");
        Due.call(x, 1, "spill", 0);
        Due.call(x, 1, "spill", 1);
        Due.work(x, "sync;", 1);
        Due.call(x, 1, "told", 4);
        Due.call(x, 2, "told", 3);
        Due.call(x, 0, "spill", 1);
        Due.call(x, 1, "spill", 0);
        Due.work(x, "sync;", 1);
        Due.call(x, 1, "told", 3);
        Due.work(x, "sync;sync;", 1);
        Due.call(x, 0, "told", 3);
        Due.call(x, 0, "spill", 0);
        Due.call(x, 3, "told", 4);
    }

    private static void spills() {
        RolledBack x = new RolledBack();
        Due.work(x, "make 0 1;grow 1 5;grow 1 6;", 3);
        Due.call(x, 2, "spill", 0);
        Due.call(x, 1, "spill", 1);
        Due.call(x, 6, "settle");
        Due.call(x, -1, "fewest");
        Due.work(x, "write 0;", 1);
        Due.call(x, 2, "spill", 0);
        Due.call(x, 0, "spill", 1);
        Due.call(x, 4, "fewest");
        Due.call(x, "IllegalArgumentException", "spill", 2);
        Due.call(x, "IllegalArgumentException", "spill", -1);
    }

    private static void fewest() {
        RolledBack x = new RolledBack();
        Due.store(x, "make 0 1;grow 1 5;", 16);
        Due.call(x, 0, "fewest");
        Due.work(x, "put 1 0 1;put 1 0 2;", 2);
        Due.call(x, 1, "fewest");
        Due.work(x, "make 0 2;", 1);
        Due.call(x, 3, "fewest");
        Due.work(x, "write 5;", 1);
        Due.call(x, 2, "fewest");
        Due.work(x, "grow 2 4;", 1);
        Due.call(x, 4, "fewest");
    }

    private static void outside() {
        RolledBack x = new RolledBack();
        Due.store(x, "size 6;", 6);
        for (int block : new int[] {-1, 6, 16, Integer.MAX_VALUE, Integer.MIN_VALUE}) {
            Due.call(x, "IndexOutOfBoundsException", "held", block);
            Due.call(x, "IndexOutOfBoundsException", "waits", block);
            Due.call(x, "IndexOutOfBoundsException", "copy", block, 0);
        }
        Due.call(x, "IndexOutOfBoundsException", "copy", 5, -1);
        Due.call(x, "IndexOutOfBoundsException", "copy", 5, 16);
        Due.call(x, 1, "copy", 0, 4);
        Due.call(x, "IllegalArgumentException", "change", -1, 6);
        Due.call(x, "IllegalArgumentException", "change", 0, -1);
        Due.call(x, "IndexOutOfBoundsException", "change", -1, 5);
        Due.call(x, "IndexOutOfBoundsException", "change", 256, 0);
        Due.call(x, "NullPointerException", "change", 255, 5);
        Due.call(x, "NullPointerException", "change", 0, 0);
    }

    public static void main(String[] args) {
        rolledBackLatestFirst();
        wipeRolledBack();
        ring();
        writesRefused();
        syncByNumbers();
        spills();
        fewest();
        outside();
        Due.end();
    }
}
