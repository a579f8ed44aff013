import java.lang.reflect.Constructor;
import java.lang.reflect.Field;
import java.lang.reflect.Method;
import java.lang.reflect.Modifier;
import java.nio.file.Files;
import java.nio.file.Path;
import java.util.ArrayList;
import java.util.Arrays;
import java.util.List;
import java.util.Set;
import java.util.TreeSet;
import java.util.regex.Matcher;
import java.util.regex.Pattern;

/** The face of the document, and those rules of LANGUAGE.md that can be seen from outside or from the text. */
public final class RulesTest {
    private static final String[] FACE = {
        "int rim(int,int)", "boolean entry(int,long)", "boolean disc(int)", "int track()",
        "int light(int,int,boolean)", "int reader(int,int)", "int lift(int)", "boolean turn(int)", "boolean mirror()",
        "boolean swap(int,int)", "int undo()", "int count(int)", "int word(int)", "int seen(int,int)",
        "int where(int)", "int at(int,int)", "int edge(int)", "int way(int,int)", "int fewest()", "int blind()",
        "int spare()", "int form(int)", "boolean keep()", "boolean same()", "boolean gray(int,int)",
        "boolean chain(int,int)", "int single(int,int,int)", "int go(int)", "int drive(int)", "int halt()",
        "int slip()", "int stands(int)", "int stand(int)", "int mend()", "int tell(int)", "boolean forge(int,int)",
        "int check(int)", "int clear()", "int fault()"};
    private static final String[] FORBIDDEN = {
        "\\bthrows?\\b", "\\btry\\b", "\\bcatch\\b", "\\bfinally\\b", "\\bsynchronized\\b", "\\bassert\\b", "->", "::",
        "Exact\\b", "\\bequals\\b", "\\bhashCode\\b", "\\btoString\\b", "static\\s*\\{", "\\bvar\\b", "@",
        "\\bpackage\\b", "\\bObject\\b", "\\bdouble\\b", "\\bfloat\\b"};

    private static int wrong = 0;

    public static void main(String[] args) throws Exception {
        face();
        innerClasses();
        text();
        System.out.println(wrong == 0 ? "all rules are kept" : wrong + " rules are not kept");
        if (wrong != 0) {
            System.exit(1);
        }
    }

    private static void keep(boolean isKept, String what) {
        if (!isKept) {
            wrong++;
            System.out.println(what);
        }
    }

    private static void face() {
        Class<WheelDisc> c = WheelDisc.class;
        keep(Modifier.isPublic(c.getModifiers()) && Modifier.isFinal(c.getModifiers()), "the class is public and final");
        Set<String> seen = new TreeSet<>();
        Set<String> names = new TreeSet<>();
        for (Method m : c.getDeclaredMethods()) {
            if (!Modifier.isPrivate(m.getModifiers())) {
                seen.add(signature(m));
                names.add(m.getName());
                keep(Modifier.isPublic(m.getModifiers()) && !Modifier.isStatic(m.getModifiers()), m + " is public");
            }
        }
        keep(seen.equals(new TreeSet<>(Arrays.asList(FACE))), "the methods are " + seen);
        for (Method m : c.getDeclaredMethods()) {
            keep(!Modifier.isPrivate(m.getModifiers()) || !names.contains(m.getName()), m + " has a public one's name");
        }
        Constructor<?>[] constructors = c.getDeclaredConstructors();
        keep(constructors.length == 1 && constructors[0].getParameterCount() == 0
                && Modifier.isPublic(constructors[0].getModifiers()), "one public constructor");
        Set<String> constants = new TreeSet<>();
        for (Field f : c.getDeclaredFields()) {
            if (!Modifier.isPrivate(f.getModifiers())) {
                constants.add(f.getName());
            }
            keep(!Modifier.isStatic(f.getModifiers()) || Modifier.isFinal(f.getModifiers()), f + " is final");
        }
        keep(constants.equals(Set.of("NONE", "SPENT")), "the constants are " + constants);
    }

    private static String signature(Method m) {
        List<String> types = new ArrayList<>();
        for (Class<?> type : m.getParameterTypes()) {
            types.add(type.getName());
        }
        return m.getReturnType().getName() + " " + m.getName() + "(" + String.join(",", types) + ")";
    }

    private static void innerClasses() {
        Class<?>[] inner = WheelDisc.class.getDeclaredClasses();
        keep(inner.length <= 11, "at most twelve classes");
        for (Class<?> c : inner) {
            keep(Modifier.isStatic(c.getModifiers()), c + " is static");
            keep(!Modifier.isPublic(c.getModifiers()) && !Modifier.isProtected(c.getModifiers()), c + " is not public");
            keep(c.getDeclaredFields().length <= 20, c + " has at most twenty fields");
            for (Method m : c.getDeclaredMethods()) {
                keep(m.getParameterCount() <= 7, m + " has at most seven parameters");
                keep(!faceHas(m.getName()), m + " has a public one's name");
            }
        }
    }

    private static boolean faceHas(String name) {
        for (String method : FACE) {
            if (method.contains(" " + name + "(")) {
                return true;
            }
        }
        return false;
    }

    /** Comments become blanks, so that each line keeps its number. */
    private static String withoutComments(String text) {
        return Pattern.compile("(?s)/\\*.*?\\*/|//[^\n]*").matcher(text)
                .replaceAll(comment -> comment.group().replaceAll("[^\n]", " "));
    }

    private static void text() throws Exception {
        String text = Files.readString(Path.of("src/main/java/WheelDisc.java"));
        String code = withoutComments(text);
        for (String forbidden : FORBIDDEN) {
            Matcher m = Pattern.compile(forbidden).matcher(code);
            keep(!m.find(), "the code has " + forbidden);
        }
        Matcher imports = Pattern.compile("import ([^;]*);").matcher(code);
        while (imports.find()) {
            keep(Set.of("java.util.Arrays", "java.util.ArrayList", "java.util.List").contains(imports.group(1)),
                    "import of " + imports.group(1));
        }
        Matcher library = Pattern.compile("\\b(Math|Integer|Long|Arrays|System)\\.(\\w+)").matcher(code);
        Set<String> allowed = Set.of("Math.min", "Math.max", "Math.abs", "Math.floorMod", "Integer.bitCount",
                "Arrays.fill", "System.arraycopy");
        while (library.find()) {
            keep(allowed.contains(library.group()), "the code calls " + library.group());
        }
        onlyNumbersAreCopied(code);
        divisorsAreLookedAt(code);
        methodsAreShort(text.split("\n"));
    }

    /** Rule 4: System.arraycopy and Arrays.fill go over arrays of numbers. */
    private static void onlyNumbersAreCopied(String code) {
        Matcher rows = Pattern.compile("\\b(?!int|long)\\w+\\[\\] (\\w+)").matcher(code);
        while (rows.find()) {
            Pattern copied = Pattern.compile("(arraycopy|Arrays\\.fill)\\([^;]*\\b" + rows.group(1) + "\\b");
            keep(!copied.matcher(code).find(), rows.group(1) + " is no row of numbers, but is copied or filled");
        }
    }

    /** Rule 7: a divisor is a constant, or a test of it stands among the seven lines ahead, or in its own. */
    private static void divisorsAreLookedAt(String code) {
        String[] lines = code.split("\n");
        Pattern division = Pattern.compile("(?:[/%] |floorMod\\([^,]*, )([a-z]\\w*)");
        for (int i = 0; i < lines.length; i++) {
            Matcher m = division.matcher(lines[i]);
            while (m.find()) {
                String near = String.join(" ", Arrays.copyOfRange(lines, Math.max(0, i - 7), i + 1));
                boolean isLookedAt = near.matches(".*\\b" + m.group(1) + " (<|<=|>=|>|!=) \\d.*")
                        || near.matches(".*fits\\([^)]*\\b" + m.group(1) + "\\b.*");
                keep(isLookedAt, "line " + (i + 1) + " divides by " + m.group(1) + ", which is not looked at");
            }
        }
    }

    private static void methodsAreShort(String[] lines) {
        for (String indent : new String[] {"    ", "        "}) {
            int begun = 0;
            for (int i = 0; i < lines.length; i++) {
                if (lines[i].matches(indent + "\\S.*\\{")) {
                    begun = i;
                }
                boolean isEnd = lines[i].equals(indent + "}") && !lines[begun].contains(" class ");
                keep(!isEnd || i - begun <= 60, "a method of over sixty lines ends at line " + (i + 1));
            }
        }
    }
}
