/** Promises 4 and 18: each step, the changes it makes and what these need, and when it is refused. */
public final class StepTest {
    private static void makes() {
        RolledBack x = new RolledBack();
        Due.work(x, "make 0 7;", 1);
        Due.changes(x, "1.4 0>1 0", "1.5 0>1 0", "4.1 0>1 0", "4.0 0>7 3");
        Due.refused(x, "make 0 7;");
        Due.refused(x, "make 1 8;");
        Due.refused(x, "make 2 8;");
        Due.work(x, "sync;drop 0 7;make 0 8;", 3);
        Due.changes(x, "4.0 7>0 0", "1.8 0>1 0", "1.9 0>1 0", "4.1 1>2 1", "4.0 0>8 3");
        // By a WIPE no byte NAME is changed, so NODE needs nothing.
        x = new RolledBack();
        Due.store(x, "make 0 1;grow 1 9;", 16);
        Due.work(x, "cut 1;write 1;write 0;dir 0 2;make 2 3;", 5);
        Due.changes(x, "1.8 0>1 0", "1.9 0>2 0", "0.5 0>1 0", "5.16 9>0 0", "1.10 0>5 2", "4.3 0>2 0",
            "4.2 0>2 4", "1.12 0>1 0", "1.13 0>1 0", "5.1 0>3 0", "5.0 0>3 3");
        // The byte NODE is there already: it is not made, and not needed.
        x = new RolledBack();
        Due.store(x, "make 0 1;", 16);
        Due.work(x, "drop 0 1;write 4;write 1;make 0 2;", 4);
        Due.changes(x, "1.4 0>1 0", "1.5 0>1 0", "4.0 0>2 2");
    }

    private static void makesUntilFull() {
        RolledBack x = new RolledBack();
        Due.store(x, "make 0 1;make 0 2;make 0 3;make 0 4;make 0 5;make 0 6;make 0 7;make 0 8;", 16);
        Due.call(x, 0, "room", 0);
        Due.refused(x, "make 0 9;");
        Due.refused(x, "dir 0 9;");
        Due.refused(x, "link 0 9 1;");
        Due.work(x, "grow 0 5;sync;make 0 9;make 0 10;make 0 11;sync;", 6);
        Due.call(x, 5, "room", 0);
        Due.call(x, 11, "find", 0, 11, 1);
        Due.refused(x, "make 0 12;");
        Due.refused(x, "dir 0 12;");
        Due.work(x, "link 0 12 11;", 1);
        // The first free entry is taken, of FIRST ahead of SECOND; the least node.
        Due.work(x, "drop 0 3;write 4;write 1;make 0 99;", 4);
        Due.call(x, 99, "peek", 4, 4, 0);
        Due.call(x, 3, "find", 0, 99, 0);
    }

    private static void directories() {
        RolledBack x = new RolledBack();
        Due.work(x, "dir 0 3;", 1);
        Due.changes(x, "1.4 0>1 0", "1.5 0>2 0", "0.5 0>1 0", "1.6 0>5 1", "4.1 0>1 0", "4.0 0>3 4");
        // No WIPE is made, but the block has UNSAFE changes: FIRST needs them all.
        x = new RolledBack();
        Due.store(x, "make 0 1;grow 1 0;", 16);
        Due.work(x, "put 1 0 5;put 1 0 0;cut 1;write 1;dir 0 2;", 5);
        Due.changes(x, "5.0 0>5 0", "5.0 5>0 0", "0.5 1>0 0", "1.8 0>1 0", "1.9 0>2 0", "0.5 0>1 0",
            "1.10 0>5 3", "4.3 0>2 0", "4.2 0>2 4");
        Due.call(x, 33, "waits", 1);
        Due.call(x, 1, "held", 1);
        Due.work(x, "write 0;", 1);
        Due.call(x, 32, "waits", 1);
        Due.call(x, 1, "held", 1);
        Due.call(x, 0, "copy", 1, 10);
        Due.call(x, 2, "change", 4, 4);
        Due.call(x, 0, "change", 4, 5);
        Due.work(x, "write 5;", 1);
        Due.call(x, 0, "held", 1);
        Due.call(x, 5, "copy", 1, 10);
        x.undo();
        x.undo();
        Due.work(x, "write 5;", 1);
        Due.changes(x, "0.5 1>0 0", "1.8 0>1 0", "1.9 0>2 0", "0.5 0>1 0", "1.10 0>5 1", "4.3 0>2 0", "4.2 0>2 4");
        Due.store(x, "size 6;make 0 1;grow 1 0;", 6);
        Due.refused(x, "dir 0 2;");
        Due.refused(x, "grow 1 0;");
        Due.store(x, "dir 0 1;dir 1 1;dir 2 1;", 16);
        Due.call(x, 4, "deep", 0, 0);
        Due.call(x, 3, "under", 0, 1);
        // A directory that is not on DISK yet is REACHED all the same, for it is asked of MEMORY.
        Due.work(x, "dir 3 7;make 4 8;drop 4 8;", 3);
        Due.call(x, 1, "told", 2);
        Due.call(x, 0, "undo");
        // What is not REACHED any more is no place for a new name, though it has LINKS.
        Due.work(x, "drop 2 1;", 1);
        Due.refused(x, "make 3 5;");
        Due.refused(x, "dir 3 5;");
        Due.refused(x, "drop 3 5;");
        Due.call(x, 1, "node", 3, 0, 0);
    }

    private static void links() {
        RolledBack x = new RolledBack();
        Due.work(x, "make 0 1;link 0 2 1;", 2);
        Due.changes(x, "1.4 0>1 0", "1.5 0>1 0", "4.1 0>1 0", "4.0 0>1 3", "1.4 1>2 0", "4.3 0>1 0", "4.2 0>2 2");
        Due.refused(x, "link 0 2 1;");
        Due.refused(x, "link 0 3 0;");
        Due.refused(x, "link 0 3 2;");
        Due.refused(x, "link 1 3 1;");
        x = new RolledBack();
        Due.store(x, "dir 0 1;make 0 2;link 0 3 2;link 0 4 2;link 0 5 2;link 0 6 2;link 0 7 2;link 0 8 2;"
            + "link 1 1 2;", 16);
        Due.call(x, 8, "node", 2, 0, 1);
        Due.work(x, "link 1 2 2;link 1 3 2;", 1);
        Due.call(x, 9, "node", 2, 0, 0);
        // A file that is let go of, but not LESSENED yet, can be linked.
        Due.store(x, "make 0 1;", 16);
        Due.work(x, "drop 0 1;link 0 2 1;", 2);
        Due.changes(x, "4.0 1>0 0", "1.4 1>2 0", "4.0 0>2 1");
        Due.work(x, "sync;sync;", 2);
        Due.call(x, 1, "node", 1, 0, 1);
        Due.call(x, 1, "find", 0, 2, 1);
    }

    private static void growsAndPuts() {
        RolledBack x = new RolledBack();
        Due.refused(x, "grow 1 5;");
        Due.work(x, "make 0 1;grow 1 5;grow 1 6;", 3);
        Due.changes(x, "1.4 0>1 0", "1.5 0>1 0", "4.1 0>1 0", "4.0 0>1 3", "0.5 0>1 0", "5.16 0>5 0", "1.6 0>5 2",
            "0.6 0>1 0", "6.16 0>6 0", "1.7 0>6 2");
        Due.refused(x, "grow 1 7;");
        Due.work(x, "put 1 0 1;put 1 15 2;put 1 16 3;put 1 31 4;", 4);
        Due.call(x, 1, "peek", 5, 0, 0);
        Due.call(x, 2, "peek", 5, 15, 0);
        Due.call(x, 3, "peek", 6, 0, 0);
        Due.call(x, 4, "peek", 6, 15, 0);
        Due.call(x, 0, "change", 10, 4);
        Due.call(x, 5, "change", 10, 2);
        Due.refused(x, "put 1 16 3;");
        Due.refused(x, "put 0 0 1;");
        Due.refused(x, "put 2 0 1;");
        Due.work(x, "grow 0 9;", 1);
        Due.call(x, 0, "peek", 7, 0, 0);
        Due.call(x, 7, "node", 0, 3, 0);
        Due.refused(x, "grow 0 0;");
    }

    private static void cuts() {
        RolledBack x = new RolledBack();
        Due.store(x, "make 0 1;grow 1 5;grow 1 6;", 16);
        Due.refused(x, "cut 0;");
        Due.refused(x, "cut 2;");
        Due.refused(x, "put 1 0 5;");
        Due.work(x, "cut 1;", 1);
        Due.changes(x, "1.7 6>0 0");
        Due.call(x, 1, "told", 2);
        Due.call(x, 127, "used", 0);
        Due.refused(x, "put 1 16 1;");
        Due.work(x, "cut 1;", 1);
        Due.changes(x, "1.7 6>0 0", "1.6 5>0 0");
        Due.call(x, 2, "told", 2);
        Due.refused(x, "cut 1;");
        Due.work(x, "write 1;", 1);
        Due.changes(x, "0.6 1>0 0", "0.5 1>0 0");
        Due.call(x, 0, "told", 2);
        Due.call(x, 31, "used", 0);
        Due.call(x, 127, "used", 1);
        // Its bytes stay; FIRST is taken again.
        Due.work(x, "grow 1 5;", 1);
        Due.changes(x, "0.6 1>0 0", "0.5 1>0 0", "0.5 0>1 0", "1.6 0>5 1");
    }

    private static void drops() {
        RolledBack x = new RolledBack();
        Due.store(x, "dir 0 1;make 1 2;grow 2 7;grow 2 8;link 0 3 2;", 16);
        Due.refused(x, "drop 0 1;");
        Due.refused(x, "drop 0 2;");
        Due.refused(x, "drop 2 2;");
        Due.refused(x, "drop 3 2;");
        Due.work(x, "drop 0 3;", 1);
        Due.changes(x, "4.2 3>0 0");
        Due.call(x, 1, "told", 2);
        Due.call(x, 2, "node", 2, 0, 0);
        Due.work(x, "write 4;", 1);
        Due.changes(x, "1.8 2>1 0");
        Due.work(x, "drop 1 2;drop 0 1;write 5;", 3);
        // LESSENED to 0: TAG, FIRST, SECOND; both blocks are freed behind that.
        Due.changes(x, "1.8 2>1 0", "4.0 1>0 0", "1.8 1>0 0", "1.9 1>0 0", "1.10 6>0 0", "1.11 7>0 0");
        Due.call(x, 3, "told", 2);
        Due.work(x, "write 4;", 1);
        Due.changes(x, "1.8 2>1 0", "1.8 1>0 0", "1.9 1>0 0", "1.10 6>0 0", "1.11 7>0 0",
            "1.4 1>0 0", "1.5 2>0 0", "1.6 5>0 0");
        Due.work(x, "write 1;", 1);
        // In the order in which they were put off.
        Due.changes(x, "0.6 1>0 0", "0.7 1>0 0", "0.5 1>0 0");
        Due.call(x, 0, "told", 2);
        Due.call(x, 255, "used", 1);
        Due.work(x, "write 0;", 1);
        Due.call(x, 31, "used", 1);
        Due.call(x, 0, "told", 1);
    }

    private static void fullOfChanges() {
        RolledBack x = new RolledBack();
        Due.store(x, "make 0 1;grow 1 0;grow 1 0;", 16);
        Due.work(x, "again 29[put 1 0 1;put 1 0 0;];put 1 0 1;", 59);
        Due.call(x, 59, "told", 1);
        Due.work(x, "dir 0 5;", 1);
        Due.call(x, 65, "told", 1);
        Due.call(x, "NullPointerException", "change", 65, 0);
        for (String step : new String[] {"make 0 6;", "dir 0 6;", "link 0 6 1;", "grow 2 0;", "put 1 0 9;", "cut 1;",
            "drop 0 1;", "sweep;"}) {
            Due.refused(x, step);
        }
        Due.work(x, "write 5;crash;make 0 6;", 3);
        Due.call(x, 4, "told", 1);
        x.undo();
        Due.work(x, "sync;", 1);
        Due.call(x, 0, "told", 1);
        Due.work(x, "again 30[put 1 0 0;put 1 0 1;];put 1 1 1;", 60);
        Due.call(x, 1, "told", 8);
        Due.call(x, 60, "told", 1);
    }

    private static void fullOfThingsPutOff() {
        RolledBack x = new RolledBack();
        StringBuilder store = new StringBuilder("dir 0 1;dir 0 2;make 0 3;make 0 4;make 0 5;make 0 6;grow 1 0;grow 2 0;");
        for (int k = 1; k <= 32; k++) {
            store.append("link ").append(k <= 16 ? 1 : 2).append(' ').append((k - 1) % 16 + 1).append(' ')
                .append(3 + (k - 1) / 8).append(';');
        }
        Due.store(x, store.toString(), 16);
        Due.call(x, 9, "node", 6, 0, 1);
        Due.call(x, 38, "under", 0, 1);
        StringBuilder first = new StringBuilder();
        StringBuilder second = new StringBuilder();
        for (int k = 1; k <= 15; k++) {
            first.append("drop 1 ").append(k).append(';');
            second.append("drop 2 ").append(k).append(';');
        }
        Due.work(x, first.toString(), 15);
        Due.work(x, second.substring(0, second.lastIndexOf("drop")), 14);
        Due.call(x, 29, "told", 2);
        Due.work(x, "drop 2 15;drop 2 16;", 1);
        Due.call(x, 30, "told", 2);
        Due.call(x, 30, "told", 1);
        for (String step : new String[] {"make 0 9;", "dir 0 9;", "link 0 9 3;", "grow 3 0;", "drop 1 16;", "sweep;"}) {
            Due.refused(x, step);
        }
        Due.call(x, -1, "finds");
        Due.work(x, "write 5;make 0 9;", 2);
        Due.call(x, 22, "told", 2);
        // Eight drops went, and eight lessenings of node 3 came.
        Due.call(x, 34, "told", 1);
        Due.call(x, 1, "node", 3, 0, 0);
    }

    public static void main(String[] args) {
        makes();
        makesUntilFull();
        directories();
        links();
        growsAndPuts();
        cuts();
        drops();
        fullOfChanges();
        fullOfThingsPutOff();
        Due.end();
    }
}
