import java.lang.reflect.Field;
import java.lang.reflect.Method;

/** What no run of calls is known to bring about is put into an object from outside. */
final class Inside {
    private Inside() { }

    private static Object of(Object x, String name) {
        try {
            Field f = x.getClass().getDeclaredField(name);
            f.setAccessible(true);
            return f.get(x);
        } catch (ReflectiveOperationException e) {
            throw new IllegalStateException(e);
        }
    }

    private static Object call(Object x, String name, int... args) {
        Class<?>[] kinds = new Class<?>[args.length];
        Object[] values = new Object[args.length];
        for (int k = 0; k < args.length; k++) {
            kinds[k] = int.class;
            values[k] = args[k];
        }
        try {
            Method m = x.getClass().getDeclaredMethod(name, kinds);
            m.setAccessible(true);
            return m.invoke(x, values);
        } catch (ReflectiveOperationException e) {
            throw new IllegalStateException(e);
        }
    }

    /** A byte as it is, without a CHANGE: in MEMORY (0) or on DISK (1). */
    static void setByte(RolledBack x, int where, int block, int place, int value) {
        byte[] both = (byte[]) of(of(x, "now"), "bytes");
        both[where * 256 + block * 16 + place] = (byte) value;
    }

    /** A CHANGE that NEEDS such ones; which one it is. */
    static int change(RolledBack x, int block, int place, int value, int... needs) {
        Object now = of(x, "now");
        int k = (Integer) call(now, "put", block, place, value);
        for (int other : needs) {
            call(now, "need", k, other);
        }
        return k;
    }

    /** A line of the BOOK, however many there are. */
    static void line(RolledBack x, int place, int value) {
        ((int[]) of(x, "book"))[place] = value;
    }
}
