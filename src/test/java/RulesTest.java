import java.io.IOException;
import java.lang.reflect.Constructor;
import java.lang.reflect.Field;
import java.lang.reflect.Method;
import java.lang.reflect.Modifier;
import java.nio.file.Files;
import java.nio.file.Path;
import java.util.Arrays;
import java.util.HashSet;
import java.util.List;
import java.util.Set;
import java.util.TreeSet;
import java.util.regex.Matcher;
import java.util.regex.Pattern;

/** The document's face to the letter, and as much of LANGUAGE.md as can be seen from outside. */
public final class RulesTest {
    private static final Path PROGRAM = Path.of("src/main/java/BenchMemories.java");
    private static final Due due = new Due("RulesTest");

    private static final List<String> FACE = List.of(
            "int way(int,int,boolean)", "int stand(int,int)", "int give(int,int)", "int lay(int,int,int)",
            "int forget(int)", "int say(int)", "int wipe()", "int fault()", "int judge(int)",
            "int behind(int,int)", "int lies(int,int)", "int hands(int,int)", "int most()", "int done()",
            "int steps(int,int)", "int get(int,int)", "int round(int,int)", "int walk(int,int)",
            "int right(int,int)", "int seen(int,int,boolean)", "int clear()", "int fits(int)",
            "int ask(int)", "int take(int,int)", "long evenings(int,int,int,int)",
            "int season(int,int,int)", "int image(int)", "int restore(int)", "int told(int)");
    private static final Set<String> CONSTANTS = Set.of(
            "int UNKNOWN", "int OUTSIDE", "int STATE", "int FULL", "int NO", "int NONE", "long GONE");
    private static final Set<String> LIBRARY = Set.of("Math.max", "Math.min", "Integer.bitCount",
            "Integer.numberOfTrailingZeros", "Long.numberOfTrailingZeros", "Arrays.fill", "System.arraycopy");

    public static void main(String[] args) throws IOException {
        face();
        List<Class<?>> inside = List.of(BenchMemories.class.getDeclaredClasses());
        due.holds("rule 11: at most 12 classes", inside.size() + 1 <= 12);
        members(BenchMemories.class);
        for (Class<?> c : inside) {
            due.holds("rule 2: " + c + " is static", Modifier.isStatic(c.getModifiers()));
            due.holds("rule 1: " + c + " is hidden", !isOpen(c.getModifiers()));
            members(c);
            due.is("rule 2: no class in " + c, c.getDeclaredClasses().length, 0);
        }
        String code = withoutComments(Files.readString(PROGRAM));
        words(code);
        objects(code);
        lengths(code);
        due.end();
    }

    private static boolean isOpen(int modifiers) {
        return Modifier.isPublic(modifiers) || Modifier.isProtected(modifiers);
    }

    private static void face() {
        Set<String> methods = new TreeSet<>();
        for (Method m : BenchMemories.class.getDeclaredMethods()) {
            if (Modifier.isPrivate(m.getModifiers())) {
                continue;
            }
            due.holds(m + " is public and no more", m.getModifiers() == Modifier.PUBLIC);
            StringBuilder types = new StringBuilder();
            for (Class<?> type : m.getParameterTypes()) {
                types.append(types.length() == 0 ? "" : ",").append(type.getName());
            }
            methods.add(m.getReturnType().getName() + " " + m.getName() + "(" + types + ")");
        }
        due.holds("the methods are the face's: " + methods, methods.equals(new TreeSet<>(FACE)));
        Set<String> constants = new HashSet<>();
        for (Field f : BenchMemories.class.getDeclaredFields()) {
            if (!Modifier.isPrivate(f.getModifiers())) {
                constants.add(f.getType().getName() + " " + f.getName());
                due.is(f + " is public, static and final", f.getModifiers(),
                        Modifier.PUBLIC | Modifier.STATIC | Modifier.FINAL);
            }
        }
        due.holds("the constants are the face's: " + constants, constants.equals(CONSTANTS));
        Constructor<?>[] makers = BenchMemories.class.getDeclaredConstructors();
        due.holds("one public constructor", makers.length == 1 && makers[0].getModifiers() == Modifier.PUBLIC
                && makers[0].getParameterCount() == 0);
        due.is("the class is public and final", BenchMemories.class.getModifiers(),
                Modifier.PUBLIC | Modifier.FINAL);
    }

    private static void members(Class<?> c) {
        int fields = 0;
        for (Field f : c.getDeclaredFields()) {
            boolean isStatic = Modifier.isStatic(f.getModifiers());
            fields += isStatic ? 0 : 1;
            due.holds("rule 5: " + f, !isStatic || Modifier.isFinal(f.getModifiers()));
            due.holds("rule 3: no array outside Row: " + f,
                    !f.getType().isArray() || c.getSimpleName().equals("Row"));
        }
        due.holds("rule 11: fields of " + c, fields <= 20);
        Set<String> ofFace = new HashSet<>();
        for (String method : FACE) {
            ofFace.add(method.substring(method.indexOf(' ') + 1, method.indexOf('(')));
        }
        for (Method m : c.getDeclaredMethods()) {
            due.holds("rule 11: parameters of " + m, m.getParameterCount() <= 7);
            boolean ofItself = c == BenchMemories.class && Modifier.isPublic(m.getModifiers());
            due.holds("rule 1: name of " + m, ofItself || !ofFace.contains(m.getName()));
        }
    }

    private static String withoutComments(String text) {
        return text.replaceAll("(?s)/\\*.*?\\*/", "").replaceAll("//[^\n]*", "");
    }

    private static void words(String code) {
        String[] barred = {"throw", "throws", "try", "catch", "finally", "synchronized", "assert", "instanceof",
                "package", "equals", "hashCode", "toString", "String", "while", "double", "float", "Random",
                "Thread", "native", "volatile", "enum", "record", "interface", "extends", "implements"};
        for (String word : barred) {
            due.holds("not in the program: " + word, !Pattern.compile("\\b" + word + "\\b").matcher(code).find());
        }
        due.holds("no lambda and no arrow", !code.contains("->"));
        due.holds("no method reference", !code.contains("::"));
        due.holds("no text", !code.contains("\""));
        Matcher imports = Pattern.compile("\\bimport ([^;]*);").matcher(code);
        while (imports.find()) {
            due.holds("rule 4: import " + imports.group(1), imports.group(1).equals("java.util.Arrays"));
        }
        Set<String> own = new HashSet<>();
        for (Class<?> c : BenchMemories.class.getDeclaredClasses()) {
            own.add(c.getSimpleName());
        }
        Matcher calls = Pattern.compile("\\b([A-Z][A-Za-z]*)\\.([a-z]\\w*)\\(").matcher(code);
        while (calls.find()) {
            String call = calls.group(1) + "." + calls.group(2);
            due.holds("rule 4: " + call, own.contains(calls.group(1)) || LIBRARY.contains(call));
        }
    }

    /** What is made is made with the object; so no call fills the room. */
    private static void objects(String code) {
        Pattern made = Pattern.compile("\\s*private final [A-Z]\\w* \\w+ = new [A-Z]\\w*\\([^;]*\\);"
                + "|\\s*cells = new int\\[Math\\.max\\(0, length\\)\\];");
        for (String line : code.split("\n")) {
            if (line.contains("new ")) {
                due.holds("rule 12: " + line.trim(), made.matcher(line).matches());
            }
        }
    }

    /** A method begins with an opening line four or eight deep and ends with a brace as deep. */
    private static void lengths(String code) {
        String[] lines = code.split("\n");
        for (int start = 0; start < lines.length; start++) {
            Matcher opening = Pattern.compile("( {4}| {8})[^ ].*\\) \\{").matcher(lines[start]);
            boolean isClass = lines[start].contains(" class ");
            if (!opening.matches() || isClass) {
                continue;
            }
            String closing = opening.group(1) + "}";
            int end = Arrays.asList(lines).subList(start, lines.length).indexOf(closing);
            due.holds("rule 11: lines of " + lines[start].trim(), end > 0 && end <= 60);
        }
    }
}
