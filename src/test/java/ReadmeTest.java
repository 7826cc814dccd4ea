import java.lang.reflect.Method;
import java.lang.reflect.Modifier;
import java.nio.file.Files;
import java.nio.file.Path;
import java.util.List;
import java.util.Set;
import java.util.TreeSet;
import java.util.regex.Matcher;
import java.util.regex.Pattern;
import java.util.stream.Stream;

/** Whether README.md tells the truth and leaves out no method. Run from the project's folder. */
public final class ReadmeTest {
    private static final Check CHECK = new Check();
    private static final Pattern CALL = Pattern.compile("shelf\\.(\\w+)\\(([^)]*)\\); *// ([-\\w]+)(: .*)?");

    public static void main(String[] args) throws Exception {
        String readme = Files.readString(Path.of("README.md"));
        Set<String> used = session(readme);
        for (Method m : CodeShelf.class.getDeclaredMethods()) {
            if (!Modifier.isPublic(m.getModifiers())) continue;
            CHECK.due("the session uses " + m.getName(), used.contains(m.getName()), true);
            CHECK.due("the table has " + m.getName(), readme.contains("\n| `" + m.getName() + "("), true);
        }
        tests(readme);
        CHECK.end("ReadmeTest");
    }

    /** Makes the calls of the session on one shelf; answers the names of the methods called. */
    private static Set<String> session(String readme) throws Exception {
        int begin = readme.indexOf("```java\n") + "```java\n".length();
        List<String> lines = readme.substring(begin, readme.indexOf("```", begin)).lines().toList();
        CHECK.due("first line of the session", lines.get(0), "CodeShelf shelf = new CodeShelf();");
        CodeShelf shelf = new CodeShelf();
        Set<String> used = new TreeSet<>();
        for (String line : lines.subList(1, lines.size())) {
            if (line.isEmpty()) continue;
            Matcher call = CALL.matcher(line);
            CHECK.due("'" + line + "' is a call and its answer", call.matches(), true);
            if (!call.matches()) continue;
            CHECK.due(line, answer(shelf, call.group(1), call.group(2)), call.group(3));
            used.add(call.group(1));
        }
        return used;
    }

    private static String answer(CodeShelf shelf, String name, String arguments) throws Exception {
        String[] words = arguments.isEmpty() ? new String[0] : arguments.split(", ");
        Object[] numbers = Stream.of(words).map(Integer::valueOf).toArray();
        Class<?>[] types = Stream.of(words).map(w -> int.class).toArray(Class<?>[]::new);
        return String.valueOf(CodeShelf.class.getMethod(name, types).invoke(shelf, numbers));
    }

    private static void tests(String readme) throws Exception {
        try (Stream<Path> files = Files.list(Path.of("src/test/java"))) {
            for (Path file : files.toList()) {
                String name = file.getFileName().toString().replace(".java", "");
                if (!name.endsWith("Test")) continue;
                CHECK.due("the list of tests has " + name, readme.contains("`" + name + "`"), true);
            }
        }
    }
}
