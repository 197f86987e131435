import java.io.IOException;
import java.lang.reflect.Constructor;
import java.lang.reflect.Field;
import java.lang.reflect.Member;
import java.lang.reflect.Method;
import java.lang.reflect.Modifier;
import java.nio.file.Files;
import java.nio.file.Path;
import java.util.Arrays;
import java.util.Map;
import java.util.Set;
import java.util.StringJoiner;
import java.util.TreeMap;
import java.util.TreeSet;
import java.util.regex.Matcher;
import java.util.regex.Pattern;

/** The public face of the document, and the rules of LANGUAGE.md that show from outside or in the program's text. */
public final class FaceTest {
    private static final Set<String> FACE = new TreeSet<>(Arrays.asList(
        "int write(int, int, int)", "int folder(int, int)", "int remove(int, int)", "int move(int, int, int)",
        "int copy(int, int, int)", "int kind(int, int)", "int number(int, int)", "int lastKind(int)", "int size(int)",
        "int changed(int)", "int twins(int, int)", "boolean same()", "int actions()", "int action(int, int)",
        "int conflicts()", "int conflict(int)", "int prefer(int)", "int step()", "int stepSome(int)",
        "int keep(int, int)", "int restore(int, int)", "BAD_ARG = -1000000001", "NO_PARENT = -1000000002",
        "EXISTS = -1000000003", "NONE = -1000000004"));
    private static final Set<String> TYPES = Set.of("int", "long", "short", "byte", "char", "boolean", "void",
        "int[]", "long[]", "short[]", "byte[]", "char[]", "boolean[]");
    private static final String[] RULED_OUT = {"float", "double", "String", "Object", "Math", "Integer", "Long",
        "System", "Arrays", "import", "package", "null", "throw", "throws", "try", "catch", "finally", "synchronized",
        "assert", "instanceof", "enum", "record", "interface", "extends", "implements", "super", "protected", "var"};

    private static final Set<String> NO_CALLS = Set.of("if", "for", "while", "switch", "return");

    private static int wrong = 0;

    private static void must(boolean holds, String what) {
        if (!holds) {
            wrong++;
            System.out.println("does not hold: " + what);
        }
    }

    private static boolean isPublic(Member member) {
        return Modifier.isPublic(member.getModifiers());
    }

    private static String told(Method method) {
        StringJoiner parameters = new StringJoiner(", ", "(", ")");
        for (Class<?> type : method.getParameterTypes()) {
            parameters.add(type.getTypeName());
        }
        return method.getReturnType() + " " + method.getName() + parameters;
    }

    private static void publicFace() throws IllegalAccessException {
        Set<String> found = new TreeSet<>();
        for (Method method : TreeSync.class.getDeclaredMethods()) {
            if (isPublic(method)) {
                must(!Modifier.isStatic(method.getModifiers()), method + " belongs to an object");
                found.add(told(method));
            }
        }
        for (Field field : TreeSync.class.getDeclaredFields()) {
            if (isPublic(field)) {
                must(Modifier.isStatic(field.getModifiers()) && Modifier.isFinal(field.getModifiers()),
                    field + " is a constant");
                found.add(field.getName() + " = " + field.getInt(null));
            }
        }
        must(found.equals(FACE), "the public face is the document's: found " + found + ", due is " + FACE);
        Constructor<?>[] constructors = TreeSync.class.getDeclaredConstructors();
        must(constructors.length == 1 && isPublic(constructors[0]) && constructors[0].getParameterCount() == 0,
            "there is one constructor, public and without arguments");
        must(TreeSync.class.getModifiers() == (Modifier.PUBLIC | Modifier.FINAL), "the class is public and final");
        must(TreeSync.class.getDeclaredClasses().length == 0, "no class is nested in it");
    }

    private static void restIsPrivate() {
        Set<String> publicNames = new TreeSet<>();
        for (Method method : TreeSync.class.getDeclaredMethods()) {
            if (isPublic(method)) {
                publicNames.add(method.getName());
            }
        }
        for (Method method : TreeSync.class.getDeclaredMethods()) {
            must(isPublic(method) || Modifier.isPrivate(method.getModifiers()), method + " is private");
            must(isPublic(method) || !publicNames.contains(method.getName()), method + " has a name of its own");
            must(method.getParameterCount() <= 7, method + " has at most seven parameters");
            must(TYPES.contains(method.getReturnType().getTypeName()), method + " answers a number");
            must(!method.getReturnType().isArray(), method + " answers no array");
            for (Class<?> type : method.getParameterTypes()) {
                must(TYPES.contains(type.getTypeName()), method + " takes numbers and arrays of them");
            }
        }
        int fields = 0;
        for (Field field : TreeSync.class.getDeclaredFields()) {
            boolean constant = Modifier.isStatic(field.getModifiers());
            must(isPublic(field) || Modifier.isPrivate(field.getModifiers()), field + " is private");
            must(TYPES.contains(field.getType().getTypeName()), field + " is a number or an array of them");
            must(!constant || field.getType() == int.class || field.getType() == long.class, field + " is int or long");
            must(!constant || Modifier.isFinal(field.getModifiers()), field + " is a constant");
            fields += constant ? 0 : 1;
        }
        must(fields <= 40, "there are at most forty fields");
    }

    private static void text() throws IOException {
        String program = Files.readString(Path.of("src/main/java/TreeSync.java"));
        String code = program.replaceAll("(?s)/\\*.*?\\*/", " ").replaceAll("//[^\n]*", " ");
        for (String word : RULED_OUT) {
            must(!Pattern.compile("\\b" + word + "\\b").matcher(code).find(), "the program has no " + word);
        }
        must(!code.contains("->") && !code.contains("::") && !code.contains("\""), "no lambda, reference or text");
        must(!code.contains("[][]"), "arrays have one dimension");
        Map<String, String> bodies = bodies(code);
        for (String name : bodies.keySet()) {
            boolean makes = Pattern.compile("\\bnew\\b").matcher(bodies.get(name)).find();
            must(name.equals("TreeSync") || !makes, name + " makes nothing new");
        }
        callDepth(bodies);
        nestedCalls(code);
        loops(code);
    }

    /** Where the bracket that opens just before this place is closed again. */
    private static int closing(String code, int from, char open, char close) {
        int depth = 1;
        int end = from;
        while (depth > 0) {
            char c = code.charAt(end);
            depth += c == open ? 1 : c == close ? -1 : 0;
            end++;
        }
        return end - 1;
    }

    private static Map<String, String> bodies(String code) {
        Map<String, String> found = new TreeMap<>();
        String words = "\\b(?:public|private)\\s[\\w\\s\\[\\]]*?\\b(\\w+)\\s*\\([^()]*\\)\\s*\\{";
        Matcher head = Pattern.compile(words).matcher(code);
        while (head.find()) {
            String body = code.substring(head.end(), closing(code, head.end(), '{', '}'));
            must(found.put(head.group(1), body) == null, head.group(1) + " is there once");
            must(body.lines().count() <= 60, head.group(1) + " is short");
        }
        int due = TreeSync.class.getDeclaredMethods().length + 1;
        must(found.size() == due, "every method and the constructor was found: " + found.keySet());
        return found;
    }

    private static Set<String> callsIn(String text) {
        Set<String> found = new TreeSet<>();
        Matcher call = Pattern.compile("\\b(\\w+)\\s*\\(").matcher(text);
        while (call.find()) {
            if (!NO_CALLS.contains(call.group(1))) {
                found.add(call.group(1));
            }
        }
        return found;
    }

    /** Rules 8 and 10: no recursion, calls at most six deep, counted from the public method on. */
    private static void callDepth(Map<String, String> bodies) {
        Set<String> reached = bodies.keySet();
        for (int depth = 1; depth <= 6; depth++) {
            Set<String> called = new TreeSet<>();
            for (String name : reached) {
                called.addAll(callsIn(bodies.getOrDefault(name, "")));
            }
            must(bodies.keySet().containsAll(called), "only the methods of the class are called: " + called);
            reached = called;
        }
        must(reached.isEmpty(), "calls go at most six deep, and none comes back: " + reached);
    }

    /** Rule 10: no call inside the arguments of another call. A declaration has no call in its brackets either. */
    private static void nestedCalls(String code) {
        Matcher call = Pattern.compile("\\b(\\w+)\\s*\\(").matcher(code);
        while (call.find()) {
            if (!NO_CALLS.contains(call.group(1))) {
                String arguments = code.substring(call.end(), closing(code, call.end(), '(', ')'));
                must(callsIn(arguments).isEmpty(), "no call in " + call.group(1) + "(" + arguments + ")");
            }
        }
    }

    private static boolean changes(String text, String name) {
        String assigned = "\\b" + name + "\\s*([-+*/%&|^]|<<|>>>?)?=(?!=)";
        String counted = "\\b" + name + "\\s*(\\+\\+|--)|(\\+\\+|--)\\s*" + name + "\\b";
        return Pattern.compile(assigned + "|" + counted).matcher(text).find();
    }

    /** Rule 8: every loop counts up to a bound, and its body changes neither the counter nor the bound. */
    private static void loops(String code) {
        must(!Pattern.compile("\\b(while|do)\\b").matcher(code).find(), "every loop is a for");
        Pattern counting = Pattern.compile("int (\\w+) = \\d+; \\1 < (\\w+)( && [^|]*)?; \\1\\+\\+");
        Matcher loop = Pattern.compile("\\bfor\\s*\\(").matcher(code);
        while (loop.find()) {
            int headEnd = closing(code, loop.end(), '(', ')');
            String head = code.substring(loop.end(), headEnd);
            Matcher parts = counting.matcher(head);
            must(parts.matches(), "a counter against a bound: for (" + head + ")");
            int bodyStart = code.indexOf('{', headEnd) + 1;
            must(code.substring(headEnd + 1, bodyStart).trim().equals("{"), "a body in brackets: for (" + head + ")");
            String body = code.substring(bodyStart, closing(code, bodyStart, '{', '}'));
            if (parts.matches()) {
                must(!changes(body, parts.group(1)), "the body leaves the counter alone: for (" + head + ")");
                must(!changes(body, parts.group(2)), "the body leaves the bound alone: for (" + head + ")");
            }
        }
    }

    public static void main(String[] args) throws Exception {
        publicFace();
        restIsPrivate();
        text();
        System.out.println(wrong == 0 ? "the face is as due" : wrong + " things are not as due");
        if (wrong != 0) {
            System.exit(1);
        }
    }
}
