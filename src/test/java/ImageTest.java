/** Promises 7, 8 and 35 to 38: undo, images, and what is counted. */
public final class ImageTest {
    private static void undoes() {
        RolledBack x = new RolledBack();
        String[] texts = {"make 0 1;grow 1 5;", "", "write 0;write 1;", "sync;drop 0 1;", "write 4;write 1;", "crash;sweep;",
            "dir 0 2;make 2 3;sync;", "crash;"};
        String[] seen = new String[texts.length];
        for (int k = 0; k < texts.length; k++) {
            seen[k] = Due.seen(x);
            Due.feed(x, texts[k]);
            x.work(texts[k].length());
            Due.call(x, k + 1, "count", 2);
        }
        for (int k = texts.length - 1; k >= 0; k--) {
            Due.call(x, k, "undo");
            Due.equal("the state ahead of work " + k, Due.seen(x), seen[k]);
        }
        Due.call(x, -1, "undo");
        // A text with a fault is no work.
        Due.work(x, "crash", -9);
        Due.call(x, -1, "undo");
    }

    private static void refusedSteps() {
        RolledBack x = new RolledBack();
        Due.work(x, "sync;sync;crash;", 1);
        Due.call(x, 2, "told", 8);
        Due.work(x, "sync", -9);
        Due.book(x, "", 0);
        Due.store(x, "sync;", -9);
        Due.call(x, 1, "image");
        Due.call(x, 2, "told", 8);
        Due.call(x, 0, "undo");
        Due.call(x, 0, "told", 8);
        Due.work(x, "sync;", 0);
        Due.call(x, 1, "told", 8);
        Due.call(x, 0, "undo");
        Due.work(x, "sync;", 0);
        Due.call(x, 0, "restore");
        Due.call(x, 0, "told", 8);
        Due.work(x, "sync;", 0);
        Due.call(x, -1, "restore");
        Due.call(x, 1, "told", 8);
        Due.call(x, 1, "undo");
        Due.call(x, 0, "undo");
        Due.work(x, "sync;", 0);
        Due.call(x, 0, "undo");
        Due.call(x, 0, "told", 8);
        Due.work(x, "sync;", 0);
        Due.store(x, "", 16);
        Due.call(x, 0, "told", 8);
    }

    private static void images() {
        RolledBack x = new RolledBack();
        Due.work(x, "make 0 1;write 4;", 2);
        Due.work(x, "drop 0 1;", 1);
        String first = Due.seen(x);
        Due.call(x, 1, "image");
        Due.work(x, "sync;crash;", 2);
        Due.work(x, "make 0 2;", 1);
        String second = Due.seen(x);
        Due.call(x, 2, "image");
        Due.call(x, 3, "undo");
        Due.call(x, 2, "undo");
        Due.call(x, 1, "undo");
        Due.call(x, 3, "image");
        Due.call(x, -1, "image");
        Due.call(x, 3, "count", 0);
        Due.work(x, "crash;", 1);
        Due.call(x, 2, "restore");
        Due.call(x, 1, "count", 2);
        Due.call(x, 0, "undo");
        Due.call(x, 1, "restore");
        Due.equal("the second image", Due.seen(x), second);
        Due.call(x, 4, "count", 2);
        Due.call(x, 0, "restore");
        Due.equal("the first image", Due.seen(x), first);
        Due.call(x, 2, "count", 2);
        Due.call(x, -1, "restore");
        Due.call(x, 1, "undo");
        Due.call(x, 1, "find", 0, 1, 0);
        Due.call(x, 0, "undo");
        Due.call(x, -1, "find", 0, 1, 0);
        Due.call(x, 0, "told", 4);
    }

    private static void notInImages() {
        RolledBack x = new RolledBack();
        Due.book(x, "0 1;", 1);
        Due.call(x, 1, "image");
        Due.call(x, "IllegalArgumentException", "told", 10);
        Due.book(x, "0 1;1 1;", 2);
        Due.work(x, "sync", -9);
        Due.feed(x, "sync;");
        Due.call(x, 0, "restore");
        Due.call(x, 1, "status", 1);
        Due.call(x, 2, "told", 7);
        Due.call(x, 20, "count", 1);
        Due.call(x, 4, "fault");
    }

    private static void fullOfWorks() {
        RolledBack x = new RolledBack();
        for (int k = 0; k < 16; k++) {
            Due.work(x, "crash;", 1);
        }
        Due.call(x, 1, "image");
        Due.work(x, "crash;", -20);
        for (int k = 15; k >= 0; k--) {
            Due.call(x, k, "undo");
        }
        Due.call(x, 0, "told", 6);
        Due.work(x, "make 0 1;", 1);
        Due.call(x, 0, "restore");
        Due.call(x, 16, "told", 6);
        Due.work(x, "crash;", -20);
        Due.call(x, 15, "undo");
        Due.call(x, 15, "told", 6);
    }

    private static void counts() {
        RolledBack x = new RolledBack();
        for (int what : new int[] {-1, 4, Integer.MAX_VALUE, Integer.MIN_VALUE}) {
            Due.call(x, -1, "status", what);
        }
        for (int what : new int[] {-1, 3, Integer.MAX_VALUE, Integer.MIN_VALUE}) {
            Due.call(x, -1, "count", what);
        }
        Due.call(x, "NoSuchElementException", "room", 12);
        Due.call(x, "NullPointerException", "change", 0, 0);
        Due.call(x, "NullPointerException", "change", 1, 0);
        Due.call(x, "IndexOutOfBoundsException", "held", 16);
        Due.call(x, "IndexOutOfBoundsException", "held", 16);
        Due.call(x, "IndexOutOfBoundsException", "change", 256, 0);
        Due.call(x, "IllegalArgumentException", "work", 1);
        Due.store(x, "", 16);
        int[] want = {1, 1, 2, 3};
        for (int what = 0; what < 4; what++) {
            Due.call(x, want[what], "status", what);
        }
    }

    /** Asked, nothing stays changed. */
    private static void asking() {
        RolledBack x = new RolledBack();
        Due.work(x, "make 0 1;grow 1 5;dir 0 2;write 0;write 1;drop 0 1;", 6);
        Due.book(x, "0 0;", 1);
        String before = Due.seen(x);
        x.fewest();
        x.spill(0);
        x.spill(1);
        x.rings();
        x.fits();
        x.look(0);
        for (int k = 0; k < 20; k++) {
            x.storm(k, 96, k % 17, k % 4);
            x.span(k, 5, 96, k % 17, k % 3, k % 12);
        }
        for (int k = 0; k < 12; k++) {
            x.under(k, k % 2);
            x.deep(k, k % 2);
            x.held(k);
            x.waits(k);
        }
        Due.equal("the state behind what was asked", Due.seen(x), before);
        Due.call(x, 1, "count", 2);
        Due.call(x, 0, "told", 8);
        Due.call(x, 1, "told", 7);
    }

    public static void main(String[] args) {
        undoes();
        refusedSteps();
        images();
        notInImages();
        fullOfWorks();
        counts();
        asking();
        Due.end();
    }
}
