import java.lang.reflect.Constructor;
import java.lang.reflect.Field;
import java.lang.reflect.InvocationTargetException;
import java.lang.reflect.Method;
import java.lang.reflect.Modifier;
import java.util.ArrayList;
import java.util.Arrays;
import java.util.List;
import java.util.Random;
import java.util.TreeSet;

/** The public face, member by member; and that no call throws anything but what the document names, by hand. */
public final class FaceTest {
    private static final String[] FACE = {
        "feed5", "store1 IllegalArgumentException", "work1 IllegalArgumentException", "book1 IllegalArgumentException",
        "fault0", "undo0", "told1 IllegalArgumentException",
        "peek3 IllegalArgumentException IndexOutOfBoundsException",
        "node3 NoSuchElementException IllegalArgumentException",
        "find3 NoSuchElementException IllegalArgumentException",
        "used1 IllegalArgumentException", "leaks1 IllegalArgumentException", "lost1 IllegalArgumentException",
        "broken1 IllegalArgumentException", "under2 NoSuchElementException IllegalArgumentException",
        "deep2 NoSuchElementException IllegalArgumentException",
        "change2 IllegalArgumentException NullPointerException IndexOutOfBoundsException",
        "held1 IndexOutOfBoundsException", "copy2 IndexOutOfBoundsException", "waits1 IndexOutOfBoundsException",
        "rings0", "settle0", "spill1 IllegalArgumentException", "fewest0", "finds0", "sweeps0", "fits0",
        "look1 IllegalArgumentException", "room1 NoSuchElementException",
        "owner2 IllegalArgumentException IndexOutOfBoundsException", "unlike1 IndexOutOfBoundsException",
        "storm4 IllegalArgumentException", "span6 NoSuchElementException IllegalArgumentException",
        "image0", "restore0", "status1", "count1",
    };

    private static void members() {
        TreeSet<String> got = new TreeSet<>();
        for (Method m : RolledBack.class.getDeclaredMethods()) {
            if (!Modifier.isPrivate(m.getModifiers()) && !m.isSynthetic()) {
                StringBuilder row = new StringBuilder(m.getName()).append(m.getParameterCount());
                for (Class<?> e : m.getExceptionTypes()) {
                    row.append(' ').append(e.getSimpleName());
                }
                got.add(row.toString());
                Due.equal(m.getName() + " is", m.getModifiers() + " " + m.getReturnType(), Modifier.PUBLIC + " int");
            }
        }
        Due.equal("the face", got, new TreeSet<>(Arrays.asList(FACE)));
        TreeSet<String> open = new TreeSet<>();
        for (Field f : RolledBack.class.getDeclaredFields()) {
            if (!Modifier.isPrivate(f.getModifiers())) {
                open.add(f.getName());
            }
        }
        Due.equal("fields that are not private", open, "[NONE]");
        Due.equal("public final", RolledBack.class.getModifiers(), Modifier.PUBLIC | Modifier.FINAL);
        Constructor<?>[] makers = RolledBack.class.getDeclaredConstructors();
        Due.equal("constructors", makers.length + " " + makers[0].getModifiers(), "1 " + Modifier.PUBLIC);
        for (Class<?> inside : RolledBack.class.getDeclaredClasses()) {
            Due.equal(inside.getName() + " is static", Modifier.isStatic(inside.getModifiers()), true);
        }
    }

    private static final int[] EDGES = {Integer.MIN_VALUE, -32769, -256, -101, -17, -1, 0, 1, 2, 3, 4, 5, 11, 12, 15,
        16, 17, 20, 59, 60, 61, 96, 97, 99, 100, 150, 151, 255, 256, 257, 600, 601, 65536, Integer.MAX_VALUE};

    /** A throw of the machine's own would come from another method than those that refuse. */
    private static boolean byHand(Throwable e) {
        StackTraceElement top = e.getStackTrace()[0];
        return top.getClassName().equals("RolledBack")
            && (top.getMethodName().startsWith("test") || top.getMethodName().equals("find"));
    }

    private static void wild(long seed) {
        Random random = new Random(seed);
        RolledBack x = new RolledBack();
        List<Method> calls = new ArrayList<>();
        for (Method m : RolledBack.class.getDeclaredMethods()) {
            if (Modifier.isPublic(m.getModifiers())) {
                calls.add(m);
            }
        }
        calls.sort((a, b) -> a.getName().compareTo(b.getName()));
        String[] texts = {"make 0 1;grow 1 5;write 1;dir 0 2;make 2 2;", "drop 0 1;write 4;sync;crash;sweep;",
            "again 60[make 0 1;drop 0 1;write 4;];", "grow 0 0;grow 1 1;cut 1;write 1;write 0;"};
        for (int k = 0; k < 512; k++) {
            if (random.nextInt(8) == 0) {
                String text = texts[random.nextInt(texts.length)];
                Due.feed(x, text);
                x.work(Math.min(x.count(1), text.length()));
            }
            Method m = calls.get(random.nextInt(calls.size()));
            Object[] args = new Object[m.getParameterCount()];
            for (int j = 0; j < args.length; j++) {
                args[j] = random.nextBoolean() ? EDGES[random.nextInt(EDGES.length)] : random.nextInt(12);
            }
            try {
                m.invoke(x, args);
            } catch (InvocationTargetException e) {
                boolean named = Arrays.asList(m.getExceptionTypes()).contains(e.getCause().getClass());
                if (!named || !byHand(e.getCause())) {
                    Due.equal(m.getName() + Arrays.toString(args), e.getCause(), "nothing but what the document names");
                }
            } catch (IllegalAccessException e) {
                Due.equal(m.getName(), e, "no such thing");
            }
        }
        Due.equal("wild run " + seed, "ended", "ended");
    }

    public static void main(String[] args) {
        members();
        for (int seed = 0; seed < 300; seed++) {
            wild(seed);
        }
        Due.end();
    }
}
