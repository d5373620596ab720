import java.io.IOException;
import java.lang.reflect.Constructor;
import java.lang.reflect.Field;
import java.lang.reflect.Method;
import java.lang.reflect.Modifier;
import java.nio.charset.StandardCharsets;
import java.nio.file.Files;
import java.nio.file.Path;
import java.util.ArrayList;
import java.util.List;
import java.util.Map;
import java.util.Set;
import java.util.TreeMap;
import java.util.TreeSet;
import java.util.regex.Matcher;
import java.util.regex.Pattern;

/** The rules of LANGUAGE.md that a look at the source and at the class can tell. */
public final class LanguageTest {
    private static final Answers is = new Answers();
    private static final Path SOURCE = Path.of("src/main/java/StringReels.java");
    private static final Path DOCUMENT = Path.of("../shared/DOC.md");

    public static void main(String[] args) throws IOException {
        face();
        nested();
        words();
        methods();
        depth();
        rows();
        is.end();
    }

    /** The document's lines 'public ..;' and the class's public members are the same. */
    private static void face() throws IOException {
        Set<String> want = new TreeSet<>();
        Matcher m = Pattern.compile("^    public (int|long) (\\w+)\\((.*)\\);$", Pattern.MULTILINE)
            .matcher(Files.readString(DOCUMENT));
        while (m.find()) {
            want.add(m.group(1) + " " + m.group(2) + m.group(3).replaceAll(" ?(int|long) \\w+", "$1"));
        }
        is.due("methods of the document's face", want.size(), 35);
        Set<String> got = new TreeSet<>();
        Set<String> hidden = new TreeSet<>();
        for (Method method : StringReels.class.getDeclaredMethods()) {
            if (Modifier.isPrivate(method.getModifiers())) {
                hidden.add(method.getName());
            } else {
                List<String> types = new ArrayList<>();
                for (Class<?> type : method.getParameterTypes()) types.add(type.getName());
                got.add(method.getReturnType() + " " + method.getName() + String.join(",", types));
                is.holds(method + " is public, not static", method.getModifiers() == Modifier.PUBLIC);
            }
        }
        is.holds("the face is the document's: " + got, got.equals(want));
        for (String one : want) {
            is.holds("no private " + one, !hidden.contains(one.replaceAll("(int|long) |(int(,int)*)?$", "")));
        }
        for (Field field : StringReels.class.getDeclaredFields()) {
            boolean constant = List.of("NONE", "BAD", "NOT", "FULL").contains(field.getName());
            is.holds(field + " is in its place", constant == Modifier.isPublic(field.getModifiers())
                && (constant || Modifier.isPrivate(field.getModifiers())));
            is.holds(field + " is final if static",
                !Modifier.isStatic(field.getModifiers()) || Modifier.isFinal(field.getModifiers()));
        }
        Constructor<?>[] makers = StringReels.class.getDeclaredConstructors();
        is.holds("one public constructor", makers.length == 1 && Modifier.isPublic(makers[0].getModifiers()));
        is.holds("a final class", Modifier.isFinal(StringReels.class.getModifiers()));
    }

    private static void nested() {
        Class<?>[] inside = StringReels.class.getDeclaredClasses();
        is.holds("some twelve classes at most", inside.length < 12);
        Set<String> shown = new TreeSet<>();
        for (Method method : StringReels.class.getDeclaredMethods()) {
            if (Modifier.isPublic(method.getModifiers())) shown.add(method.getName());
        }
        for (Class<?> one : inside) {
            is.holds(one + " is static", Modifier.isStatic(one.getModifiers()));
            is.holds(one + " has some twenty fields at most", one.getDeclaredFields().length <= 20);
            for (Method method : one.getDeclaredMethods()) {
                is.holds(method + " bears no public name", !shown.contains(method.getName()));
                is.holds(method + " takes seven at most", method.getParameterCount() <= 7);
            }
        }
    }

    private static String bare() throws IOException {
        String source = new String(Files.readAllBytes(SOURCE), StandardCharsets.ISO_8859_1);
        return source.replaceAll("(?s)/\\*.*?\\*/", "").replaceAll("//[^\n]*", "").replaceAll("'[^']'", "0");
    }

    private static void words() throws IOException {
        String source = bare();
        for (String word : new String[] {"throw", "throws", "try", "catch", "synchronized", "assert", "package",
            "protected", "volatile", "transient", "native", "Object", "Random", "Thread", "currentTimeMillis", "nanoTime",
            "equals", "hashCode", "toString", "var", "double", "float", "finally"}) {
            is.holds("no " + word, !Pattern.compile("\\b" + word + "\\b").matcher(source).find());
        }
        for (String sign : new String[] {"->", "::", "Exact(", "\""}) {
            is.holds("no " + sign, !source.contains(sign));
        }
        is.due("imports", source.split("\\bimport\\b", -1).length - 1, 1);
        is.holds("import of Arrays", source.contains("import java.util.Arrays;"));
        Matcher m = Pattern.compile("\\b(Arrays|Math|Integer|Long|System)\\.(\\w+)").matcher(source);
        // Functions alone: rule 4 lists no constants of Integer and Long.
        Set<String> known = Set.of("Arrays.fill", "Math.max", "Math.min", "Integer.bitCount", "System.arraycopy");
        while (m.find()) {
            is.holds(m.group() + " is of the library's part", known.contains(m.group()));
        }
    }

    /** Methods stay short: from a line with a head to the brace at the same margin. */
    private static void methods() throws IOException {
        String[] lines = bare().split("\n");
        int count = 0;
        for (int i = 0; i < lines.length; i++) {
            if (!lines[i].matches(" +(public|private).*\\) \\{")) continue;
            String margin = lines[i].substring(0, lines[i].indexOf('p'));
            int end = i;
            while (end < lines.length && !lines[end].equals(margin + "}")) end++;
            count++;
            is.holds("short: " + lines[i].trim(), end - i < 60);
        }
        is.holds("methods are found", count > 80);
    }

    /** Calls go eight deep at most, and none goes in a ring; methods of one name are taken together. */
    private static void depth() throws IOException {
        Map<String, Set<String>> calls = new TreeMap<>();
        Matcher m = Pattern.compile("(?ms)^( +)(?:public|private)[^=;{]*?(\\w+)\\([^)]*\\) \\{$(.*?)^\\1\\}$").matcher(bare());
        while (m.find()) {
            Matcher called = Pattern.compile("(\\w+)\\(").matcher(m.group(3));
            Set<String> names = calls.computeIfAbsent(m.group(2), name -> new TreeSet<>());
            while (called.find()) names.add(called.group(1));
        }
        is.holds("calls are found", calls.size() > 80 && calls.get("digest").contains("spare"));
        for (String name : calls.keySet()) {
            is.holds("eight deep at most: " + name, depthOf(name, calls, 0) <= 8);
        }
    }

    private static int depthOf(String name, Map<String, Set<String>> calls, int open) {
        int most = 0;
        for (String called : calls.get(name)) {
            if (calls.containsKey(called) && open < 20) most = Math.max(most, depthOf(called, calls, open + 1));
        }
        return most + 1;
    }

    /** No call makes a row: all are made where an object is. */
    private static void rows() throws IOException {
        for (String line : bare().split("\n")) {
            if (line.contains("new ")) {
                is.holds("made with the object: " + line.trim(), line.matches(
                    "    (    )?private final .* = new .*;| +(texts|sheets)\\[\\w+\\] = new \\w+\\(.*\\);| +bytes = new int\\[limit\\];"));
            }
        }
    }
}
