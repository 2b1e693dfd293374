import java.io.IOException;
import java.lang.reflect.InvocationTargetException;
import java.lang.reflect.Method;
import java.nio.file.Files;
import java.nio.file.Path;
import java.util.ArrayList;
import java.util.BitSet;
import java.util.List;
import java.util.Map;
import java.util.TreeMap;

/**
 * Runs the tests of the edges. Each is a method that quotes the document's words (Says). Its name tells
 * where they stand: p07_.. under "Promise 7", t2_.. under "Terms", section 2. What is quoted must stand
 * there, and every word that stands there must be quoted by some test.
 */
final class Edge {
    private static final Path DOCUMENT = Path.of("../shared/DOC.md");

    private final Map<String, String> parts = new TreeMap<>();
    private final Map<String, BitSet> quoted = new TreeMap<>();
    private int tests;

    private static String oneLine(String text) {
        return text.replace("```text", " ").replace("```", " ").replace("====", " ").replaceAll("\\s+", " ").strip();
    }

    /** The document's parts by the names that tests begin with; empty, if it is not here. */
    private void readDocument() throws IOException {
        if (!Files.exists(DOCUMENT)) {
            System.out.println("no " + DOCUMENT + " here: what the tests quote is not looked up");
            return;
        }
        for (String chapter : Files.readString(DOCUMENT).split("(?m)^## ")) {
            if (chapter.startsWith("Promise ")) {
                int number = Integer.parseInt(chapter.substring(8, chapter.indexOf(':')));
                // Behind the heading and the face's line, which FaceTest has.
                String text = chapter.substring(chapter.indexOf('\n'));
                parts.put(String.format("p%02d", number), oneLine(text.substring(text.indexOf("`:") + 2)));
            } else if (chapter.startsWith("Terms")) {
                String[] sections = chapter.split("(?m)^==== \\d\\. ");
                for (int k = 1; k < sections.length; k++) {
                    parts.put("t" + k, oneLine(sections[k]));
                }
            }
        }
        parts.forEach((name, text) -> quoted.put(name, new BitSet()));
    }

    private void checkQuotes(String name, Says says) {
        String part = name.substring(0, name.indexOf('_'));
        String text = parts.get(part);
        Due.equal(name + ": there is " + part, parts.isEmpty() || text != null, true);
        if (text == null) {
            return;
        }
        for (String quote : says.value()) {
            int from = text.indexOf(quote);
            Due.equal(name + ": the document says '" + quote + "'", from >= 0, true);
            for (; from >= 0; from = text.indexOf(quote, from + 1)) {
                quoted.get(part).set(from, from + quote.length());
            }
        }
    }

    private void run(Class<?> group) {
        List<Method> methods = new ArrayList<>(List.of(group.getDeclaredMethods()));
        methods.sort((a, b) -> a.getName().compareTo(b.getName()));
        for (Method m : methods) {
            Says says = m.getAnnotation(Says.class);
            if (says == null) {
                continue;
            }
            tests++;
            Due.begin(m.getName());
            checkQuotes(m.getName(), says);
            try {
                m.setAccessible(true);
                m.invoke(null);
            } catch (InvocationTargetException e) {
                Due.equal("the test", e.getCause(), "ended");
            } catch (IllegalAccessException e) {
                Due.equal("the test", e, "run");
            }
            Due.endOne();
        }
    }

    private void checkThatAllIsQuoted() {
        for (Map.Entry<String, String> part : parts.entrySet()) {
            String text = part.getValue();
            StringBuilder left = new StringBuilder();
            for (int k = 0; k < text.length(); k++) {
                boolean open = !quoted.get(part.getKey()).get(k);
                left.append(open && Character.isLetterOrDigit(text.charAt(k)) ? text.charAt(k) : ' ');
            }
            Due.equal("what no test quotes of " + part.getKey(), oneLine(left.toString()), "");
        }
    }

    static void runAll(Class<?>... groups) throws IOException {
        Edge edge = new Edge();
        edge.readDocument();
        for (Class<?> group : groups) {
            edge.run(group);
        }
        edge.checkThatAllIsQuoted();
        System.out.println(edge.tests + " tests of edges");
        Due.end();
    }
}
