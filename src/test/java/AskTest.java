/** Promises 8 to 17 and 30 to 32: what is told of either side, and the wrong inputs. */
public final class AskTest {
    private static void tree() {
        RolledBack x = new RolledBack();
        Due.store(x, "dir 0 1;make 1 2;link 1 3 2;dir 1 4;make 3 5;link 0 6 2;", 16);
        int[] under = {6, 4, 0, 1, 0, 0};
        int[] deep = {3, 2, 0, 1, 0, 0};
        int[] room = {6, 5, 0, 7, 0, 0};
        int[] links = {1, 1, 3, 1, 1, 0};
        int[] tags = {2, 2, 1, 2, 1, 0};
        int[] first = {4, 5, 0, 6, 0, 0};
        for (int node = 0; node < 6; node++) {
            for (int where = 0; where < 2; where++) {
                Due.call(x, under[node], "under", node, where);
                Due.call(x, deep[node], "deep", node, where);
                Due.call(x, links[node], "node", node, 0, where);
                Due.call(x, tags[node], "node", node, 1, where);
                Due.call(x, first[node], "node", node, 2, where);
                Due.call(x, 0, "node", node, 3, where);
                Due.call(x, node < 5 ? 1 : 0, "node", node, 4, where);
            }
            Due.call(x, room[node], "room", node);
        }
        Due.call(x, 2, "find", 1, 3, 0);
        Due.call(x, 2, "find", 0, 6, 1);
        Due.call(x, -1, "find", 0, 2, 1);
        Due.call(x, -1, "find", 2, 2, 0);
        int[] owners = {-1, -1, -1, -1, 0, 1, 3, -1};
        for (int block = 0; block < owners.length; block++) {
            Due.call(x, owners[block], "owner", block, 0);
            Due.call(x, owners[block], "owner", block, 1);
            Due.call(x, 0, "unlike", block);
        }
        letGo(x);
    }

    private static void letGo(RolledBack x) {
        Due.work(x, "drop 3 5;drop 1 4;", 2);
        Due.call(x, 24, "lost", 0);
        Due.call(x, 0, "lost", 1);
        Due.call(x, 64, "leaks", 0);
        Due.call(x, 0, "leaks", 1);
        Due.call(x, 127, "used", 0);
        Due.call(x, 4, "under", 0, 0);
        Due.call(x, 6, "under", 0, 1);
        Due.call(x, 2, "deep", 0, 0);
        Due.call(x, 3, "deep", 0, 1);
        Due.call(x, 0, "under", 3, 0);
        Due.call(x, 1, "under", 3, 1);
        Due.call(x, 1, "deep", 3, 0);
        Due.call(x, 8, "room", 3);
        Due.call(x, -1, "find", 3, 5, 0);
        Due.call(x, 4, "find", 3, 5, 1);
        Due.call(x, 0, "node", 3, 4, 0);
        Due.call(x, 1, "node", 3, 4, 1);
        Due.call(x, 1, "unlike", 6);
        Due.call(x, 1, "unlike", 5);
        Due.call(x, 0, "unlike", 4);
        Due.call(x, 3, "owner", 6, 0);
        Due.call(x, 96, "told", 3);
        Due.call(x, 2, "told", 2);
        Due.work(x, "write 5;crash;", 2);
        Due.call(x, 24, "lost", 0);
        Due.call(x, 24, "lost", 1);
        Due.call(x, 64, "leaks", 1);
        Due.call(x, 0, "told", 2);
        Due.call(x, 1, "told", 6);
        Due.call(x, 0, "broken", 1);
        Due.call(x, 0, "broken", 0);
        Due.call(x, 1, "under", 3, 1);
    }

    private static void leaksOnDisk() {
        RolledBack x = new RolledBack();
        Due.work(x, "make 0 1;grow 1 5;write 0;", 3);
        Due.call(x, 32, "leaks", 1);
        Due.call(x, 0, "leaks", 0);
        Due.call(x, 63, "used", 1);
        Due.call(x, -1, "owner", 5, 1);
        Due.call(x, 1, "owner", 5, 0);
        Due.call(x, 16, "unlike", 5);
        Due.work(x, "write 1;", 1);
        Due.call(x, 2, "lost", 1);
        Due.call(x, 0, "node", 1, 4, 1);
        Due.call(x, 1, "told", 5);
        Due.call(x, 2, "told", 4);
    }

    private static void secondBlockOfDirectory() {
        RolledBack x = new RolledBack();
        StringBuilder store = new StringBuilder("dir 0 1;make 1 1;grow 1 0;");
        for (int k = 2; k <= 9; k++) {
            store.append("link 1 ").append(k).append(" 2;");
        }
        store.append("dir 1 10;make 3 1;");
        Due.store(x, store.toString(), 16);
        Due.call(x, 12, "under", 0, 1);
        Due.call(x, 11, "under", 1, 0);
        Due.call(x, 3, "deep", 0, 1);
        Due.call(x, 6, "room", 1);
        Due.call(x, 3, "find", 1, 10, 1);
        Due.call(x, 9, "node", 2, 0, 1);
        Due.call(x, 1, "node", 4, 4, 1);
        Due.call(x, 1, "owner", 6, 1);
    }

    private static void chain() {
        RolledBack x = new RolledBack();
        StringBuilder store = new StringBuilder();
        for (int node = 0; node < 11; node++) {
            store.append("dir ").append(node).append(" 1;");
        }
        Due.store(x, store.toString(), 16);
        for (int node = 0; node < 12; node++) {
            Due.call(x, 12 - node, "deep", node, 1);
            Due.call(x, 11 - node, "under", node, 0);
        }
        Due.call(x, 65535, "used", 1);
    }

    /** Nothing that can be done breaks a side, so its bytes are put here from outside. */
    private static void brokenByHand() {
        RolledBack x = new RolledBack();
        Due.store(x, "dir 0 1;make 1 2;grow 2 5;grow 2 6;make 0 3;grow 3 7;", 16);
        for (int where = 0; where < 2; where++) {
            Due.call(x, 0, "broken", where);
            Inside.setByte(x, where, 0, 6, 0);
            Due.call(x, 1, "broken", where);
            Inside.setByte(x, where, 1, 15, 6);
            Due.call(x, 2, "broken", where);
            Inside.setByte(x, where, 1, 14, 7);
            Due.call(x, 3, "broken", where);
            // NODE 2 has no LINKS: its pointers count no more, but its ENTRY does.
            Inside.setByte(x, where, 1, 8, 0);
            Due.call(x, 2, "broken", where);
            Inside.setByte(x, where, 1, 8, 1);
            Inside.setByte(x, where, 1, 9, 0);
            Due.call(x, 4, "broken", where);
            // Its directory is not REACHED.
            Inside.setByte(x, where, 4, 0, 0);
            Due.call(x, 3, "broken", where);
            Due.call(x, where == 0 ? 0 : 3, "broken", 1);
        }
    }

    private static void wrongInputs() {
        RolledBack x = new RolledBack();
        Due.store(x, "size 6;", 6);
        for (int wrong : new int[] {-1, 2, Integer.MAX_VALUE, Integer.MIN_VALUE}) {
            for (String name : new String[] {"used", "leaks", "lost", "broken"}) {
                Due.call(x, "IllegalArgumentException", name, wrong);
            }
            Due.call(x, "IllegalArgumentException", "under", 0, wrong);
            Due.call(x, "IllegalArgumentException", "deep", 0, wrong);
            Due.call(x, "IllegalArgumentException", "node", 0, 0, wrong);
            Due.call(x, "IllegalArgumentException", "find", 0, 1, wrong);
            Due.call(x, "IllegalArgumentException", "peek", 99, 99, wrong);
            Due.call(x, "IllegalArgumentException", "owner", 99, wrong);
        }
        for (int wrong : new int[] {-1, 12, Integer.MAX_VALUE, Integer.MIN_VALUE}) {
            Due.call(x, "NoSuchElementException", "node", wrong, 9, 9);
            Due.call(x, "NoSuchElementException", "find", wrong, 0, 9);
            Due.call(x, "NoSuchElementException", "under", wrong, 9);
            Due.call(x, "NoSuchElementException", "deep", wrong, 9);
            Due.call(x, "NoSuchElementException", "room", wrong);
        }
        for (int wrong : new int[] {-1, 6, 16, Integer.MAX_VALUE, Integer.MIN_VALUE}) {
            Due.call(x, "IndexOutOfBoundsException", "peek", wrong, 0, 0);
            Due.call(x, "IndexOutOfBoundsException", "owner", wrong, 0);
            Due.call(x, "IndexOutOfBoundsException", "unlike", wrong);
        }
        Due.call(x, "IndexOutOfBoundsException", "peek", 5, -1, 1);
        Due.call(x, "IndexOutOfBoundsException", "peek", 5, 16, 1);
        Due.call(x, "IllegalArgumentException", "node", 0, 5, 0);
        Due.call(x, "IllegalArgumentException", "node", 0, -1, 0);
        Due.call(x, "IllegalArgumentException", "find", 0, 0, 0);
        Due.call(x, "IllegalArgumentException", "find", 0, 100, 0);
        Due.call(x, "IllegalArgumentException", "told", 10);
        Due.call(x, "IllegalArgumentException", "told", -1);
        Due.call(x, 20, "status", 0);
        Due.call(x, 46, "status", 1);
        Due.call(x, 0, "status", 2);
        Due.call(x, 17, "status", 3);
    }

    public static void main(String[] args) {
        tree();
        chain();
        brokenByHand();
        leaksOnDisk();
        secondBlockOfDirectory();
        wrongInputs();
        Due.end();
    }
}
