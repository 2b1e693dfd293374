/** Promises 4, 26 and 27: what sweep finds, what it mends, and how many sweeps a crash would leave to do. */
public final class SweepTest {
    private static void lostNode() {
        RolledBack x = new RolledBack();
        Due.call(x, -1, "finds");
        Due.work(x, "sweep;", 0);
        Due.work(x, "make 0 1;grow 1 5;write 0;write 5;write 1;", 5);
        Due.call(x, -1, "finds");
        Due.call(x, 1, "sweeps");
        Due.work(x, "crash;", 1);
        Due.call(x, 1, "finds");
        Due.work(x, "sweep;", 1);
        // LINKS, TAG and FIRST go to 0; the block is freed when that is on DISK, so it is not found.
        Due.call(x, 3, "told", 1);
        Due.call(x, 1, "told", 2);
        Due.call(x, -1, "finds");
        Due.call(x, 63, "used", 0);
        Due.work(x, "sync;sync;", 2);
        Due.call(x, 31, "used", 1);
        Due.call(x, 0, "sweeps");
    }

    private static void linksTooMany() {
        RolledBack x = new RolledBack();
        Due.store(x, "make 0 1;", 16);
        Due.work(x, "link 0 2 1;link 0 3 1;write 1;", 3);
        Due.call(x, 1, "sweeps");
        Due.call(x, -1, "finds");
        Due.work(x, "crash;", 1);
        Due.call(x, 1, "finds");
        Due.call(x, 3, "node", 1, 0, 0);
        Due.work(x, "sweep;sweep;", 1);
        Due.call(x, 1, "node", 1, 0, 0);
        Due.call(x, 1, "told", 1);
        Due.call(x, 1, "node", 1, 1, 0);
        Due.call(x, 0, "told", 2);
        // A lessening that is put off keeps its link.
        Due.store(x, "make 0 1;link 0 2 1;", 16);
        Due.work(x, "drop 0 1;", 1);
        Due.call(x, -1, "finds");
        Due.call(x, 2, "node", 1, 0, 0);
    }

    private static void lostBlock() {
        RolledBack x = new RolledBack();
        Due.work(x, "make 0 1;grow 1 5;grow 1 6;write 0;crash;", 5);
        Due.call(x, 105, "finds");
        Due.call(x, 2, "sweeps");
        Due.work(x, "sweep;", 1);
        Due.call(x, 106, "finds");
        Due.call(x, 95, "used", 0);
        Due.call(x, 127, "used", 1);
        Due.work(x, "sweep;sweep;", 1);
        Due.call(x, -1, "finds");
        // A freeing that is put off keeps its block.
        Due.store(x, "make 0 1;grow 1 5;", 16);
        Due.work(x, "cut 1;", 1);
        Due.call(x, -1, "finds");
        Due.call(x, 32, "leaks", 0);
        Due.call(x, 0, "sweeps");
        Due.work(x, "write 1;", 1);
        Due.call(x, 1, "sweeps");
    }

    private static void nodesAheadOfBlocks() {
        RolledBack x = new RolledBack();
        Due.work(x, "make 0 1;make 0 2;make 0 3;grow 1 5;write 0;write 1;crash;", 7);
        Due.call(x, 14, "lost", 0);
        Due.call(x, 4, "sweeps");
        int[] found = {1, 2, 3, 105, -1};
        for (int want : found) {
            Due.call(x, want, "finds");
            Due.work(x, "sweep;sync;sync;", want == -1 ? 0 : 2);
        }
        // A directory that is lost, and what it names, are found one by one.
        x = new RolledBack();
        Due.store(x, "dir 0 1;make 1 1;dir 1 2;make 3 1;", 16);
        Due.work(x, "drop 3 1;drop 1 2;drop 1 1;drop 0 1;write 4;crash;", 6);
        Due.call(x, 30, "lost", 1);
        Due.call(x, 4, "sweeps");
        Due.work(x, "sweep;sync;sync;sync;sweep;sync;sweep;sync;sync;sweep;sync;", 10);
        Due.call(x, 0, "lost", 1);
        Due.call(x, 31, "used", 1);
        Due.call(x, -1, "finds");
    }

    public static void main(String[] args) {
        lostNode();
        linksTooMany();
        lostBlock();
        nodesAheadOfBlocks();
        Due.end();
    }
}
