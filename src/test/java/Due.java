import java.lang.reflect.InvocationTargetException;
import java.lang.reflect.Method;

/** What the tests share: a call by its name, its answer or the exception that it throws, and the tally. */
final class Due {
    private static int wrong;
    private static int right;

    private Due() { }

    /** What a call answers: a number, or the simple name of an exception. */
    static String answer(Object x, String call, int... args) {
        Class<?>[] kinds = new Class<?>[args.length];
        Object[] values = new Object[args.length];
        for (int k = 0; k < args.length; k++) {
            kinds[k] = int.class;
            values[k] = args[k];
        }
        try {
            Method method = x.getClass().getMethod(call, kinds);
            return String.valueOf(method.invoke(x, values));
        } catch (InvocationTargetException e) {
            return e.getCause().getClass().getSimpleName();
        } catch (ReflectiveOperationException e) {
            return "no such call";
        }
    }

    static String told(String call, int... args) {
        String row = java.util.Arrays.toString(args);
        return call + "(" + row.substring(1, row.length() - 1) + ")";
    }

    static void equal(String what, Object got, Object want) {
        if (String.valueOf(got).equals(String.valueOf(want))) {
            right++;
        } else {
            wrong++;
            System.out.println(what + " answered " + got + ", due is " + want);
        }
    }

    static void call(RolledBack x, Object want, String call, int... args) {
        equal(told(call, args), answer(x, call, args), want);
    }

    /** Puts a text on the tape, twenty bytes at a time. */
    static void feed(Object x, String text) {
        for (int from = 0; from < text.length(); from += 20) {
            int[] five = new int[5];
            for (int k = 0; k < 20; k++) {
                int sign = from + k < text.length() ? text.charAt(from + k) : 0;
                five[k / 4] = five[k / 4] << 8 | sign & 255;
            }
            answer(x, "feed", five);
        }
    }

    static void text(RolledBack x, String call, String text, Object want) {
        feed(x, text);
        equal(call + " of '" + text + "'", answer(x, call, text.length()), want);
    }

    static void store(RolledBack x, String text, Object want) {
        text(x, "store", text, want);
    }

    static void work(RolledBack x, String text, Object want) {
        text(x, "work", text, want);
    }

    static void book(RolledBack x, String text, Object want) {
        text(x, "book", text, want);
    }

    /** A fault's answer and its place. */
    static void fault(RolledBack x, String call, String text, int want, int place) {
        text(x, call, text, want);
        equal("fault() behind " + call + " of '" + text + "'", x.fault(), place);
    }

    static int wrongSoFar() {
        return wrong;
    }

    static void end() {
        System.out.println(right + " right, " + wrong + " wrong");
        if (wrong > 0) {
            System.exit(1);
        }
    }
}
