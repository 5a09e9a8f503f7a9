import java.lang.reflect.Constructor;
import java.lang.reflect.Field;
import java.lang.reflect.Method;
import java.lang.reflect.Modifier;
import java.nio.file.Files;
import java.nio.file.Path;
import java.util.Arrays;
import java.util.HashSet;
import java.util.List;
import java.util.Set;
import java.util.TreeSet;
import java.util.regex.Matcher;
import java.util.regex.Pattern;

/** The document's public face, and the rules of LANGUAGE.md that can be read off the class and its text. */
public final class LanguageTest {
    private static final Path SOURCE = Path.of("src/main/java/QuantifierDesk.java");
    private static final Set<String> FACE = Set.of(
            "public final class QuantifierDesk",
            "public static final int QuantifierDesk.BAD",
            "public static final int QuantifierDesk.FULL",
            "public static final int QuantifierDesk.NONE",
            "public QuantifierDesk()",
            "public int QuantifierDesk.feed(int)",
            "public int QuantifierDesk.back()",
            "public void QuantifierDesk.clear()",
            "public int QuantifierDesk.length()",
            "public int QuantifierDesk.token(int)",
            "public boolean QuantifierDesk.complete()",
            "public boolean QuantifierDesk.holds(int)",
            "public int QuantifierDesk.models()",
            "public int QuantifierDesk.modelFrom(int)",
            "public boolean QuantifierDesk.valid()",
            "public boolean QuantifierDesk.depends(int)",
            "public boolean QuantifierDesk.keep()",
            "public boolean QuantifierDesk.impliesKept()",
            "public int QuantifierDesk.agreeing()");
    private static final Set<String> TYPES = Set.of("int", "long", "short", "byte", "char", "boolean", "void",
            "int[]", "long[]", "short[]", "byte[]", "char[]", "boolean[]");
    private static final List<String> FORBIDDEN = List.of("package", "import", "float", "double", "String", "Math",
            "Integer", "Long", "System", "Arrays", "Object", "null", "throw", "throws", "try", "catch", "finally",
            "synchronized", "assert", "instanceof", "interface", "enum", "record", "var", "protected", "this",
            "toString", "equals", "hashCode", "getClass", "clone");

    private static int wrong = 0;

    public static void main(String[] args) throws Exception {
        checkFace();
        checkTypes();
        checkNames();
        checkText(withoutComments(Files.readString(SOURCE)));
        System.out.println(wrong == 0 ? "the class keeps to the rules" : wrong + " breaches");
        if (wrong != 0) {
            System.exit(1);
        }
    }

    private static void breach(String what) {
        wrong++;
        System.out.println(what);
    }

    private static void checkFace() {
        Class<?> desk = QuantifierDesk.class;
        Set<String> visible = new TreeSet<>();
        visible.add(Modifier.toString(desk.getModifiers()) + " " + desk);
        for (Field field : desk.getDeclaredFields()) {
            addVisible(visible, field.getModifiers(), field.toString());
        }
        for (Constructor<?> constructor : desk.getDeclaredConstructors()) {
            addVisible(visible, constructor.getModifiers(), constructor.toString());
        }
        for (Method method : desk.getDeclaredMethods()) {
            addVisible(visible, method.getModifiers(), method.toString());
        }
        if (!visible.equals(FACE)) {
            breach("the public face is " + visible);
        }
        if (desk.getDeclaredClasses().length != 0 || desk.getSuperclass() != Object.class
                || desk.getInterfaces().length != 0) {
            breach("rule 1: the class stands alone");
        }
    }

    private static void addVisible(Set<String> visible, int modifiers, String text) {
        if (!Modifier.isPrivate(modifiers)) {
            visible.add(text);
        }
    }

    private static void checkTypes() {
        int fields = 0;
        for (Field field : QuantifierDesk.class.getDeclaredFields()) {
            String type = field.getType().getSimpleName();
            boolean fixed = Modifier.isStatic(field.getModifiers());
            if (!TYPES.contains(type)) {
                breach("rule 2: " + field);
            }
            if (fixed && !(type.equals("int") || type.equals("long"))) {
                breach("rule 5: " + field);
            }
            fields += fixed ? 0 : 1;
        }
        if (fields > 40) {
            breach("rule 10: " + fields + " fields");
        }
        for (Method method : QuantifierDesk.class.getDeclaredMethods()) {
            Set<String> used = new HashSet<>();
            Arrays.stream(method.getParameterTypes()).forEach(type -> used.add(type.getSimpleName()));
            if (!TYPES.containsAll(used) || !TYPES.contains(method.getReturnType().getSimpleName())) {
                breach("rule 2: " + method);
            }
            if (method.getReturnType().isArray()) {
                breach("rule 4: " + method);
            }
            if (method.getParameterCount() > 7) {
                breach("rule 10: " + method);
            }
        }
    }

    private static void checkNames() {
        Set<String> seen = new HashSet<>();
        for (Method method : QuantifierDesk.class.getDeclaredMethods()) {
            if (!seen.add(method.getName())) {
                breach("rule 1: two methods bear the name " + method.getName());
            }
        }
    }

    private static String withoutComments(String text) {
        return text.replaceAll("(?s)/\\*.*?\\*/", "").replaceAll("//[^\n]*", "");
    }

    private static void checkText(String text) {
        for (String word : FORBIDDEN) {
            if (Pattern.compile("\\b" + word + "\\b").matcher(text).find()) {
                breach("the word " + word + " is outside the rules");
            }
        }
        if (text.contains("->") || text.contains("::") || text.contains("\"") || text.contains("@")) {
            breach("rules 2 and 6: no lambda, method reference, text or annotation");
        }
        Matcher made = Pattern.compile("[^\n]*\\bnew\\b[^\n]*").matcher(text);
        while (made.find()) {
            if (!made.group().matches("    private final \\w+\\[] \\w+ = new \\w+\\[[A-Z_0-9]+];")) {
                breach("rule 4: " + made.group().trim());
            }
        }
        checkCalls(text);
    }

    /** Rules 8 and 10: who calls whom, from the text of each method. */
    private static void checkCalls(String text) {
        if (hasCallInArguments(text)) {
            breach("rule 10: a call stands inside the arguments of another call");
        }
        String[] pieces = text.split("\n    (?=(public|private) )");
        for (String piece : pieces) {
            Matcher head = Pattern.compile("^(?:public|private)[\\w ]* (\\w+)\\(").matcher(piece);
            if (!head.find()) {
                continue;
            }
            if (piece.lines().count() > 60) {
                breach("rule 10: " + head.group(1) + " is long");
            }
            int depth = depthOf(head.group(1), pieces, 1);
            if (depth > 6) {
                breach("rules 8 and 10: calls from " + head.group(1) + " go deeper than six");
            }
        }
    }

    private static boolean hasCallInArguments(String text) {
        Matcher call = Pattern.compile("\\b(\\w+)\\(").matcher(text);
        Set<String> notCalls = Set.of("if", "for", "while", "switch", "return");
        while (call.find()) {
            if (notCalls.contains(call.group(1))) {
                continue;
            }
            int open = 1;
            int at = call.end();
            while (open > 0) {
                open += text.charAt(at) == '(' ? 1 : text.charAt(at) == ')' ? -1 : 0;
                at++;
            }
            if (Pattern.compile("\\w\\(").matcher(text.substring(call.end(), at - 1)).find()) {
                return true;
            }
        }
        return false;
    }

    /** Stops at seven, so that recursion is told as too deep. */
    private static int depthOf(String name, String[] pieces, int depth) {
        if (depth > 6) {
            return depth;
        }
        int deepest = depth;
        for (String piece : pieces) {
            if (!Pattern.compile("^(?:public|private)[\\w ]* " + name + "\\(").matcher(piece).find()) {
                continue;
            }
            String body = piece.substring(piece.indexOf('{'));
            for (Method method : QuantifierDesk.class.getDeclaredMethods()) {
                if (Pattern.compile("\\b" + method.getName() + "\\(").matcher(body).find()) {
                    deepest = Math.max(deepest, depthOf(method.getName(), pieces, depth + 1));
                }
            }
        }
        return deepest;
    }
}
