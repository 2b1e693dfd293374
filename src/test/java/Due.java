import java.lang.reflect.InvocationTargetException;
import java.lang.reflect.Method;

/** What the tests share: a call by its name, its answer or the exception that it throws, and the tally. */
final class Due {
    /** The store that losingWorks begin with. */
    static final String TEN_FILES = "grow 0 0;make 0 1;make 0 2;make 0 3;make 0 4;make 0 5;make 0 6;make 0 7;make 0 8;"
        + "make 0 9;make 0 10;";

    private static int wrong;
    private static int right;
    /** The test that runs, told ahead of each wrong answer; empty without. */
    private static String test = "";

    private Due() { }

    /** What a call answers: a number, or the simple name of an exception. */
    static String answer(Object x, String call, int... args) {
        Class<?>[] kinds = new Class<?>[args.length];
        Object[] values = new Object[args.length];
        for (int k = 0; k < args.length; k++) {
            kinds[k] = int.class;
            values[k] = args[k];
        }
        try {
            Method method = x.getClass().getMethod(call, kinds);
            return String.valueOf(method.invoke(x, values));
        } catch (InvocationTargetException e) {
            return e.getCause().getClass().getSimpleName();
        } catch (ReflectiveOperationException e) {
            return "no such call";
        }
    }

    static String told(String call, int... args) {
        String row = java.util.Arrays.toString(args);
        return call + "(" + row.substring(1, row.length() - 1) + ")";
    }

    static void equal(String what, Object got, Object want) {
        if (String.valueOf(got).equals(String.valueOf(want))) {
            right++;
        } else {
            wrong++;
            System.out.println(test + what + " answered " + got + ", due is " + want);
        }
    }

    static void begin(String name) {
        test = name + ": ";
    }

    static void endOne() {
        test = "";
    }

    static void call(RolledBack x, Object want, String call, int... args) {
        equal(told(call, args), answer(x, call, args), want);
    }

    /** Puts a text on the tape, twenty bytes at a time. */
    static void feed(Object x, String text) {
        for (int from = 0; from < text.length(); from += 20) {
            int[] five = new int[5];
            for (int k = 0; k < 20; k++) {
                int sign = from + k < text.length() ? text.charAt(from + k) : 0;
                five[k / 4] = five[k / 4] << 8 | sign & 255;
            }
            answer(x, "feed", five);
        }
    }

    static void text(RolledBack x, String call, String text, Object want) {
        feed(x, text);
        equal(call + " of '" + text + "'", answer(x, call, text.length()), want);
    }

    static void store(RolledBack x, String text, Object want) {
        text(x, "store", text, want);
    }

    static void work(RolledBack x, String text, Object want) {
        text(x, "work", text, want);
    }

    static void book(RolledBack x, String text, Object want) {
        text(x, "book", text, want);
    }

    /** A fault's answer and its place. */
    static void fault(RolledBack x, String call, String text, int want, int place) {
        text(x, call, text, want);
        equal("fault() behind " + call + " of '" + text + "'", x.fault(), place);
    }

    /** A new object with such a store. */
    static RolledBack made(String store) {
        RolledBack x = new RolledBack();
        feed(x, store);
        equal("store of '" + store + "' is one", x.store(store.length()) > 0, true);
        return x;
    }

    /** The changes that are UNSAFE, as "block.place was>puts needs" each. */
    static void changes(RolledBack x, String... want) {
        call(x, want.length, "told", 1);
        for (int k = 0; k < want.length; k++) {
            String got = answer(x, "change", k, 0) + "." + answer(x, "change", k, 1) + " "
                + answer(x, "change", k, 2) + ">" + answer(x, "change", k, 3) + " "
                + answer(x, "change", k, 4);
            equal("change " + k, got, want[k]);
        }
    }

    /** All that a work changes, as one text. */
    static String seen(RolledBack x) {
        StringBuilder text = new StringBuilder();
        for (int what : new int[] {0, 1, 2, 3, 4, 5, 6, 9}) {
            text.append(x.told(what)).append(' ');
        }
        for (int k = 0; k < x.told(0) * 16; k++) {
            text.append(x.peek(k / 16, k % 16, 0)).append(' ').append(x.peek(k / 16, k % 16, 1)).append(' ');
            text.append(x.copy(k / 16, k % 16)).append(' ');
        }
        for (int k = 0; k < x.told(1) * 6; k++) {
            text.append(x.change(k / 6, k % 6)).append(' ');
        }
        text.append(x.settle()).append(' ').append(x.finds()).append(' ').append(x.sweeps());
        return text.toString();
    }

    /** A step that is refused: it is counted as such, and nothing is changed by it. */
    static void refused(RolledBack x, String step) {
        String before = seen(x);
        work(x, step, 0);
        equal("told(8) behind '" + step + "'", x.told(8), 1);
        equal("what is seen behind '" + step + "'", seen(x), before);
        x.undo();
    }

    /** Works that leave directories behind them, each lost on DISK, and naming the next one many times. */
    static String[] losingWorks(int levels, int links) {
        String[] texts = new String[levels];
        for (int level = 0; level < levels; level++) {
            int directory = 11 - level;
            int file = directory - 1;
            StringBuilder text = new StringBuilder("dir0 99;");
            for (int name = 1; name <= links; name++) {
                text.append("link").append(directory).append(' ').append(name).append(' ').append(file).append(';');
            }
            // The file's own name is gone on DISK, and the directory's never comes there.
            text.append("drop0 ").append(file).append(";write").append(file <= 8 ? 4 : 5).append(";write0;");
            text.append("write").append(1 + file / 4).append(';');
            if (file / 4 != directory / 4) {
                text.append("write").append(1 + directory / 4).append(';');
            }
            // Its node is free behind the sweep, so the next directory is that one.
            texts[level] = text.append("write").append(6 + level).append(";crash;sweep;sync;").toString();
        }
        return texts;
    }

    static void lostDirectories(RolledBack x, int levels, int links) {
        store(x, TEN_FILES, 16);
        for (String text : losingWorks(levels, links)) {
            text(x, "work", text, text.split(";").length);
        }
    }

    static int wrongSoFar() {
        return wrong;
    }

    static void end() {
        System.out.println(right + " right, " + wrong + " wrong");
        if (wrong > 0) {
            System.exit(1);
        }
    }
}
