import java.io.IOException;
import java.lang.reflect.Method;
import java.lang.reflect.Modifier;
import java.nio.file.Files;
import java.nio.file.Path;
import java.util.regex.Matcher;
import java.util.regex.Pattern;

/** README.md: its example answers what is written there, and it tells of every call. */
public final class ReadmeTest {
    private static final Pattern FEED = Pattern.compile("feed\\(x, \"(.*)\"\\);");
    private static final Pattern CALL = Pattern.compile("x\\.(\\w+)\\(([-\\d, ]*)\\); *// (-?\\w+)(:.*)?");

    private static void example(String[] lines) {
        RolledBack x = new RolledBack();
        int calls = 0;
        for (String line : lines) {
            Matcher fed = FEED.matcher(line);
            Matcher called = CALL.matcher(line);
            if (fed.matches()) {
                Due.feed(x, fed.group(1));
            } else if (called.matches()) {
                Due.call(x, called.group(3), called.group(1), numbers(called.group(2)));
                calls++;
            } else {
                Due.equal("a line of the example", line, line.isBlank() ? line : "a text or a call with its answer");
            }
        }
        Due.equal("calls in the example: " + calls, calls > 20, true);
    }

    private static int[] numbers(String row) {
        String[] each = row.isBlank() ? new String[0] : row.split(",");
        int[] all = new int[each.length];
        for (int k = 0; k < each.length; k++) {
            all[k] = Integer.parseInt(each[k].strip());
        }
        return all;
    }

    private static void everyCall(String text) {
        for (Method m : RolledBack.class.getDeclaredMethods()) {
            if (Modifier.isPublic(m.getModifiers())) {
                boolean there = Pattern.compile("`" + m.getName() + "[`(]").matcher(text).find();
                Due.equal("README.md tells of " + m.getName(), there, true);
            }
        }
    }

    public static void main(String[] args) throws IOException {
        String text = Files.readString(Path.of("README.md"));
        String start = "RolledBack x = new RolledBack();\n";
        int from = text.indexOf(start);
        int to = text.indexOf("```", from);
        Due.equal("there is an example", from >= 0 && to > from, true);
        if (from >= 0 && to > from) {
            example(text.substring(from + start.length(), to).split("\n"));
        }
        everyCall(text);
        Due.end();
    }
}
