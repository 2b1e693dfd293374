import java.io.IOException;
import java.lang.reflect.Field;
import java.lang.reflect.Method;
import java.lang.reflect.Modifier;
import java.nio.file.Files;
import java.nio.file.Path;
import java.util.ArrayList;
import java.util.List;
import java.util.Set;
import java.util.TreeSet;
import java.util.regex.Matcher;
import java.util.regex.Pattern;

/** Rules of LANGUAGE.md that can be seen from the source or from the compiled classes. */
public final class LanguageTest {
    private static final Set<String> KINDS = Set.of("int", "long", "short", "byte", "char", "boolean");

    /** Without comments and without what stands in texts. */
    private static String bare(String source) {
        return source.replaceAll("(?s)/\\*.*?\\*/", "").replaceAll("//[^\n]*", "").replaceAll("\"[^\"\n]*\"", "\"\"");
    }

    private static void words(String source) {
        String code = bare(source);
        for (String word : new String[] {"catch", "try", "finally", "synchronized", "assert", "instanceof", "package",
            "protected", "transient", "volatile", "native", "double", "float", "->", "::", "Exact", "getMessage"}) {
            String pattern = Character.isLetter(word.charAt(0)) ? "\\b" + word + "\\b" : Pattern.quote(word);
            Due.equal("'" + word + "' in the source", Pattern.compile(pattern).matcher(code).find(), false);
        }
        Matcher imports = Pattern.compile("(?m)^import (.*);$").matcher(code);
        List<String> found = new ArrayList<>();
        while (imports.find()) {
            found.add(imports.group(1));
        }
        Due.equal("imports", found, "[java.util.NoSuchElementException]");
        Matcher thrown = Pattern.compile("throw (.*);").matcher(source);
        while (thrown.find()) {
            Due.equal("throw " + thrown.group(1), thrown.group(1).matches(
                "new (IllegalArgument|NoSuchElement|IndexOutOfBounds|NullPointer)Exception\\(\"[a-z ]*\"\\)"), true);
        }
        Matcher made = Pattern.compile("\\bnew (\\w+)").matcher(code);
        Set<String> kinds = new TreeSet<>();
        while (made.find()) {
            kinds.add(made.group(1));
        }
        Due.equal("what is made", kinds, "[History, IllegalArgumentException, Image, IndexOutOfBoundsException,"
            + " NoSuchElementException, NullPointerException, Pen, Reader, Script, State, Steps, Storm, boolean, byte, int]");
    }

    private static void lengths(String source) {
        String[] lines = source.split("\n");
        int from = -1;
        int margin = 0;
        for (int k = 0; k < lines.length; k++) {
            String line = lines[k];
            int indent = line.length() - line.stripLeading().length();
            if (from < 0 && line.matches(" +[\\w\\[\\] ]+\\(.*") && !line.contains("=") && !line.endsWith(";")
                    && !line.matches(" +(if|for|while|switch|else|return)\\b.*")) {
                from = k;
                margin = indent;
            } else if (from >= 0 && indent == margin && line.strip().equals("}")) {
                Due.equal("the length of " + lines[from].strip(), k - from < 60, true);
                from = -1;
            }
        }
    }

    private static void classes() {
        List<Class<?>> all = new ArrayList<>(List.of(RolledBack.class.getDeclaredClasses()));
        all.add(RolledBack.class);
        Due.equal("classes: " + all.size(), all.size() <= 12, true);
        Set<String> face = new TreeSet<>();
        for (Method m : RolledBack.class.getDeclaredMethods()) {
            if (Modifier.isPublic(m.getModifiers())) {
                face.add(m.getName());
            }
        }
        for (Class<?> c : all) {
            int fields = 0;
            for (Field f : c.getDeclaredFields()) {
                boolean fixed = Modifier.isStatic(f.getModifiers());
                fields += fixed ? 0 : 1;
                if (fixed) {
                    Due.equal(f.getName() + " is final", Modifier.isFinal(f.getModifiers()), true);
                    String kind = f.getType().getSimpleName();
                    Due.equal(f.getName() + " is a constant", KINDS.contains(kind) || kind.equals("String"), true);
                }
            }
            Due.equal("fields of " + c.getSimpleName() + ": " + fields, fields <= 20, true);
            for (Method m : c.getDeclaredMethods()) {
                Due.equal("parameters of " + m.getName(), m.getParameterCount() <= 7, true);
                boolean ofFace = c == RolledBack.class && Modifier.isPublic(m.getModifiers());
                Due.equal(c.getSimpleName() + "." + m.getName() + " bears a public name", !ofFace && face.contains(m.getName()), false);
            }
        }
    }

    public static void main(String[] args) throws IOException {
        String source = Files.readString(Path.of("src/main/java/RolledBack.java"));
        words(source);
        lengths(source);
        classes();
        Due.end();
    }
}
