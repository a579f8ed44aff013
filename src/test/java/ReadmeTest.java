import java.lang.reflect.Method;
import java.lang.reflect.Modifier;
import java.nio.file.DirectoryStream;
import java.nio.file.Files;
import java.nio.file.Path;
import java.util.List;
import java.util.Set;
import java.util.TreeSet;
import java.util.regex.Matcher;
import java.util.regex.Pattern;

/** What README.md shows of the use of the class: each call gives the answer that stands behind it. */
public final class ReadmeTest {
    private static final Path README = Path.of("README.md");
    private static final Path TESTS = Path.of("src/test/java");
    private static final String NEW_OBJECT = "WheelDisc x = new WheelDisc();";
    private static final Pattern CALL = Pattern.compile("x\\.(\\w+)\\(([^)]*)\\); +// (-?\\w+): \\S.*");
    private static final int MOST_CALLS = 512;

    private static final Set<String> shown = new TreeSet<>();
    private static WheelDisc x = null;
    private static int calls = 0;

    public static void main(String[] args) throws Exception {
        String text = Files.readString(README);
        examples(List.of(text.split("\n")));
        everyCallIsShown();
        everyTestIsNamed(text);
        Due.end();
    }

    private static void examples(List<String> lines) throws Exception {
        boolean isJava = false;
        for (int i = 0; i < lines.size(); i++) {
            String line = lines.get(i).strip();
            String place = "README.md, line " + (i + 1) + ", " + line;
            if (line.startsWith("```")) {
                Due.same(place, isJava && !line.equals("```") ? "begins" : "", "");
                isJava = line.equals("```java");
                x = null;
            } else if (isJava) {
                example(place, line);
            }
        }
        Due.same("README.md's last example", isJava ? "has no end" : "", "");
    }

    private static void example(String place, String line) throws Exception {
        if (line.equals(NEW_OBJECT)) {
            x = new WheelDisc();
            calls = 0;
            return;
        }
        Matcher m = CALL.matcher(line);
        if (!m.matches()) {
            Due.same(place, "not of the form of a call with its answer", "");
            return;
        }
        if (x == null) {
            Due.same(place, "no object is made ahead of it", "");
            return;
        }
        calls++;
        Due.same(place + ": at most 512 calls", calls <= MOST_CALLS ? "" : "more", "");
        Due.is(place, answer(place, m.group(1), m.group(2)), said(m.group(3)));
    }

    private static long said(String answer) {
        switch (answer) {
            case "NONE": return WheelDisc.NONE;
            case "SPENT": return WheelDisc.SPENT;
            case "true": return 1;
            case "false": return 0;
            default: return Long.parseLong(answer);
        }
    }

    private static long answer(String place, String name, String arguments) throws Exception {
        String[] texts = arguments.isBlank() ? new String[0] : arguments.split(",");
        for (Method method : WheelDisc.class.getDeclaredMethods()) {
            if (Modifier.isPublic(method.getModifiers()) && method.getName().equals(name)
                    && method.getParameterCount() == texts.length) {
                shown.add(name);
                return asNumber(method.invoke(x, values(method.getParameterTypes(), texts)));
            }
        }
        Due.same(place, "there is no such call", "");
        return 0;
    }

    private static Object[] values(Class<?>[] types, String[] texts) {
        Object[] values = new Object[texts.length];
        for (int i = 0; i < texts.length; i++) {
            String text = texts[i].strip();
            if (types[i] == boolean.class) {
                values[i] = text.equals("true");
            } else if (types[i] == long.class) {
                values[i] = Long.parseLong(text);
            } else {
                values[i] = Integer.parseInt(text);
            }
        }
        return values;
    }

    private static long asNumber(Object answer) {
        if (answer instanceof Boolean) {
            return (Boolean) answer ? 1 : 0;
        }
        return (Integer) answer;
    }

    private static void everyCallIsShown() {
        Set<String> all = new TreeSet<>();
        for (Method method : WheelDisc.class.getDeclaredMethods()) {
            if (Modifier.isPublic(method.getModifiers())) {
                all.add(method.getName());
            }
        }
        Due.same("the calls that README.md shows", shown.toString(), all.toString());
    }

    private static void everyTestIsNamed(String text) throws Exception {
        try (DirectoryStream<Path> files = Files.newDirectoryStream(TESTS, "*Test.java")) {
            for (Path file : files) {
                String name = file.getFileName().toString().replace(".java", "");
                Due.same("README.md", text.contains("`" + name + "`") ? "" : "does not name " + name, "");
            }
        }
        Due.same("README.md", text.contains("\n.ci/run\n") ? "" : "does not say how to run the tests", "");
    }
}
