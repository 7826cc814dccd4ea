import java.lang.reflect.Field;
import java.lang.reflect.Method;
import java.lang.reflect.Modifier;
import java.nio.file.Files;
import java.nio.file.Path;
import java.util.ArrayDeque;
import java.util.Deque;
import java.util.HashMap;
import java.util.Map;
import java.util.Set;
import java.util.TreeMap;
import java.util.TreeSet;
import java.util.regex.Matcher;
import java.util.regex.Pattern;

/**
 * The face of the class, and those rules of LANGUAGE.md that can be seen from the class and its
 * source without understanding it. Run from the project's folder.
 */
public final class LanguageTest {
    private static final Check CHECK = new Check();
    private static final Set<String> NO_CALLS = Set.of("if", "for", "while", "switch", "return", "CodeShelf");

    public static void main(String[] args) throws Exception {
        String source = Files.readString(Path.of("src/main/java/CodeShelf.java"));
        String code = source.replaceAll("(?s)/\\*.*?\\*/", "").replaceAll("//[^\n]*", "");
        face();
        fields();
        words(code);
        arrays(code);
        Map<String, String> bodies = bodies(code);
        bodies.forEach(LanguageTest::nestedCalls);
        depths(bodies);
        CHECK.end("LanguageTest");
    }

    private static void face() throws Exception {
        Map<String, String> want = new TreeMap<>();
        for (String m : new String[] {"type 1", "keep 1", "remove 1", "sync 0", "crash 1", "settle 0", "file 2", "at 2",
            "having 3", "segment 2", "document 2", "token 3", "wipe 0", "search 0", "place 0", "hit 2", "opened 1",
            "state 1"}) {
            want.put(m.split(" ")[0], m.split(" ")[1]);
        }
        int shown = 0;
        for (Method m : CodeShelf.class.getDeclaredMethods()) {
            boolean named = want.containsKey(m.getName());
            CHECK.due(m.getName() + " is public", Modifier.isPublic(m.getModifiers()), named);
            CHECK.due(m.getName() + " is private", Modifier.isPrivate(m.getModifiers()), !named);
            CHECK.due(m.getName() + " has at most seven parameters", m.getParameterCount() <= 7, true);
            CHECK.due(m.getName() + " answers no array", m.getReturnType().isArray(), false);
            if (!named) continue;
            shown++;
            CHECK.due(m.getName() + " parameters", m.getParameterCount(), Integer.parseInt(want.get(m.getName())));
            for (Class<?> p : m.getParameterTypes()) CHECK.due(m.getName() + " takes int", p == int.class, true);
            Class<?> answer = m.getName().equals("opened") ? boolean.class : int.class;
            CHECK.due(m.getName() + " answers as said", m.getReturnType() == answer, true);
        }
        CHECK.due("public methods", shown, want.size());
        CHECK.due("constructors", CodeShelf.class.getDeclaredConstructors().length, 1);
        CHECK.due("the constructor", Modifier.isPublic(CodeShelf.class.getConstructor().getModifiers()), true);
        CHECK.due("final", Modifier.isFinal(CodeShelf.class.getModifiers()), true);
        CHECK.due("nested classes", CodeShelf.class.getDeclaredClasses().length, 0);
    }

    private static void fields() {
        int own = 0;
        for (Field f : CodeShelf.class.getDeclaredFields()) {
            boolean shown = Set.of("NONE", "REFUSED", "SYNTAX", "LARGE").contains(f.getName());
            CHECK.due(f.getName() + " is public", Modifier.isPublic(f.getModifiers()), shown);
            CHECK.due(f.getName() + " is private", Modifier.isPrivate(f.getModifiers()), !shown);
            Class<?> type = f.getType();
            if (Modifier.isStatic(f.getModifiers())) {
                CHECK.due(f.getName() + " is final", Modifier.isFinal(f.getModifiers()), true);
                CHECK.due(f.getName() + " is int or long", type == int.class || type == long.class, true);
                continue;
            }
            own++;
            Class<?> element = type.isArray() ? type.getComponentType() : type;
            CHECK.due(f.getName() + " is of numbers", element.isPrimitive(), true);
            CHECK.due(f.getName() + ": an array is final", !type.isArray() || Modifier.isFinal(f.getModifiers()), true);
        }
        CHECK.due("at most forty fields, not " + own, own <= 40, true);
    }

    private static void words(String code) {
        for (String word : new String[] {"package", "import", "float", "double", "throw", "throws", "try", "catch",
            "synchronized", "assert", "instanceof", "null", "interface", "enum", "record", "protected", "String", "Math",
            "Integer", "Long", "System", "Arrays", "Object", "Thread", "this", "super", "var", "native"}) {
            CHECK.due("the word " + word, Pattern.compile("\\b" + word + "\\b").matcher(code).find(), false);
        }
        for (String sign : new String[] {"->", "::", "@", "\"", "'", "static {", "[]["}) {
            CHECK.due("the sign " + sign, code.contains(sign), false);
        }
        CHECK.due("classes", code.split("\\bclass\\b", -1).length - 1, 1);
    }

    private static void arrays(String code) {
        Pattern made = Pattern.compile("private final (\\w+)\\[\\] \\w+ = new (\\w+)\\[[A-Z_]+\\];");
        int fine = 0;
        for (String line : code.split("\n")) {
            Matcher m = made.matcher(line.trim());
            if (m.matches() && m.group(1).equals(m.group(2))) fine++;
        }
        CHECK.due("arrays made outside of fields", code.split("\\bnew\\b", -1).length - 1 - fine, 0);
    }

    /** The text of each method between its braces, by the method's name. */
    private static Map<String, String> bodies(String code) {
        Map<String, String> all = new HashMap<>();
        Matcher m = Pattern.compile("\\n    (?:public|private)[^=;{]*?(\\w+)\\([^)]*\\) \\{(.*?)\\n    \\}", Pattern.DOTALL)
            .matcher(code);
        while (m.find()) {
            CHECK.due("two methods " + m.group(1), all.containsKey(m.group(1)), false);
            all.put(m.group(1), m.group(2));
            CHECK.due(m.group(1) + " is short", m.group(2).split("\n").length <= 60, true);
        }
        CHECK.due("methods found", all.size(), CodeShelf.class.getDeclaredMethods().length + 1);
        return all;
    }

    private static void nestedCalls(String name, String body) {
        Deque<Boolean> open = new ArrayDeque<>();
        Matcher m = Pattern.compile("(\\w+)?\\s*\\(|\\)").matcher(body);
        while (m.find()) {
            if (m.group().equals(")")) {
                open.pop();
                continue;
            }
            boolean call = m.group(1) != null && !NO_CALLS.contains(m.group(1));
            CHECK.due(name + ": a call inside another's arguments, " + m.group(), call && open.contains(true), false);
            open.push(call);
        }
    }

    private static void depths(Map<String, String> bodies) {
        Map<String, Set<String>> calls = new TreeMap<>();
        bodies.forEach((name, body) -> {
            Set<String> called = new TreeSet<>();
            Matcher m = Pattern.compile("(\\w+)\\(").matcher(body);
            while (m.find()) {
                if (NO_CALLS.contains(m.group(1))) continue;
                CHECK.due(name + " calls " + m.group(1) + " of the class", bodies.containsKey(m.group(1)), true);
                called.add(m.group(1));
            }
            calls.put(name, called);
        });
        for (String name : calls.keySet()) {
            int depth = depth(name, calls, 0);
            CHECK.due("calls from " + name + " go at most six deep, not " + depth, depth <= 6, true);
        }
    }

    private static int depth(String name, Map<String, Set<String>> calls, int above) {
        if (above > 50) return above; // recursion
        int deepest = 0;
        for (String called : calls.getOrDefault(name, Set.of())) {
            deepest = Math.max(deepest, depth(called, calls, above + 1));
        }
        return deepest + 1;
    }
}
