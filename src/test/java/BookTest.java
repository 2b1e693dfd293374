/** Promises 28 and 29: which block was written, by what is seen. */
public final class BookTest {
    private static void seen(RolledBack x, String book, int lines, int fits, int place, int left) {
        Due.book(x, book, lines);
        Due.call(x, fits, "fits");
        Due.call(x, place, "look", 0);
        Due.call(x, left, "look", 1);
    }

    public static void main(String[] args) {
        RolledBack x = new RolledBack();
        seen(x, "3 0;", 1, 0, 0, 0);
        seen(x, "0 1;1 7;", 2, 0, 2, 0);
        Due.work(x, "make 0 7;grow 1 9;", 2);
        // Of the copies: MAP 1 1 1 1 1 1, nodes 1 2 4 0 1 1, entries 0 1, and the file's block 9 throughout.
        seen(x, "", 0, 51, 2, 1);
        seen(x, "2 9;", 1, 32, 0, 1);
        seen(x, "2 9;0 0;", 2, 0, 1, 0);
        seen(x, "0 1;", 1, 3, 1, 1);
        seen(x, "15 0;", 1, 19, 2, 1);
        // Entry 0 has its name in MEMORY, but not in the copy.
        seen(x, "0 7;", 1, 0, 1, 0);
        seen(x, "0 1;4 1;", 2, 3, 1, 1);
        seen(x, "0 1;1 1;2 1;3 1;4 1;5 1;6 0;7 0;8 0;9 0;10 0;11 0;12 0;13 0;", 14, 1, 14, 1);
        Due.work(x, "put 1 2 4;", 1);
        seen(x, "", 0, 51, 0, 2);
        seen(x, "15 0;0 0;", 2, 16, 1, 1);
        Due.work(x, "sync;sync;", 2);
        seen(x, "", 0, 0, 0, 0);
        Due.call(x, "IllegalArgumentException", "look", 2);
        Due.call(x, "IllegalArgumentException", "look", -1);
        Due.end();
    }
}
