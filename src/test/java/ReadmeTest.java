import java.io.IOException;
import java.lang.reflect.Method;
import java.lang.reflect.Modifier;
import java.net.URL;
import java.net.URLClassLoader;
import java.nio.file.Files;
import java.nio.file.Path;
import java.util.Set;
import java.util.TreeSet;
import java.util.regex.Matcher;
import java.util.regex.Pattern;
import java.util.stream.Stream;
import javax.tools.ToolProvider;

/** What README.md says is so: its examples compile and answer as told, and what it names is there. */
final class ReadmeTest {
    private static final Path PAGE = Path.of("README.md"), TESTS = Path.of("src", "test", "java");
    private static final Pattern TOLD = Pattern.compile("^(x\\.\\w+\\(.*\\)); +// (-?\\d+)\\b.*$");
    private static final Checks c = new Checks();

    public static void main(String[] args) throws Exception {
        String page = Files.readString(PAGE);
        examples(page);
        calls(page);
        places(page);
        tests(page);
        c.end();
    }

    /** Each example becomes a class whose main gathers the answers that are not as told. */
    private static void examples(String page) throws Exception {
        Matcher blocks = Pattern.compile("(?s)```java\n(.*?)```").matcher(page);
        int many = 0;
        while (blocks.find()) {
            many++;
            example("Example" + many, blocks.group(1));
        }
        c.promise("README.md");
        c.due("there are examples", many > 0 ? 1 : 0, 1);
    }

    private static void example(String name, String block) throws Exception {
        c.promise("README.md, " + name);
        StringBuilder code = new StringBuilder("public class " + name + " implements Runnable {\n");
        code.append("public StringBuilder wrong = new StringBuilder();\npublic void run() {\n");
        int told = 0;
        for (String line : block.split("\n")) {
            Matcher call = TOLD.matcher(line);
            if (call.matches()) {
                told++;
                code.append("due(\"" + call.group(1) + "\", " + call.group(1) + ", " + call.group(2) + ");\n");
            } else {
                c.due("tells an answer: " + line, line.startsWith("x.") ? 1 : 0, 0);
                code.append(line).append('\n');
            }
        }
        code.append("}\nprivate void due(String call, long got, long want) {\n");
        code.append("if (got != want) { wrong.append(call).append(\" answered \").append(got).append(\"; \"); } } }\n");
        c.due("answers are told", told > 0 ? 1 : 0, 1);
        c.dueText("what is not as told", run(name, code.toString()), "");
    }

    private static String run(String name, String code) throws Exception {
        Path place = Files.createTempDirectory("readme");
        try {
            Path file = Files.writeString(place.resolve(name + ".java"), code);
            int failed = ToolProvider.getSystemJavaCompiler().run(null, null, null, "-d", place.toString(), "-cp",
                System.getProperty("java.class.path"), file.toString());
            if (failed != 0) {
                return "it does not compile";
            }
            try (URLClassLoader loader = new URLClassLoader(new URL[] {place.toUri().toURL()})) {
                Object example = loader.loadClass(name).getConstructor().newInstance();
                ((Runnable) example).run();
                return example.getClass().getField("wrong").get(example).toString();
            }
        } finally {
            remove(place);
        }
    }

    private static void remove(Path place) throws IOException {
        try (Stream<Path> files = Files.list(place)) {
            for (Path file : files.toList()) {
                Files.delete(file);
            }
        }
        Files.delete(place);
    }

    private static void calls(String page) {
        c.promise("README.md, the calls");
        for (Method method : GapStations.class.getDeclaredMethods()) {
            if (Modifier.isPublic(method.getModifiers())) {
                c.due(method.getName() + " is named", page.contains("`" + method.getName() + "`") ? 1 : 0, 1);
                c.due(method.getName() + " has an example", page.contains("x." + method.getName() + "(") ? 1 : 0, 1);
            }
        }
        for (Class<?> inside : GapStations.class.getDeclaredClasses()) {
            c.due(inside + " is named", page.contains("`" + inside.getSimpleName() + "`") ? 1 : 0, 1);
        }
    }

    private static void places(String page) {
        c.promise("README.md, the files");
        Matcher names = Pattern.compile("(?<![\\w./])(?:\\.\\./|\\.)?\\w+(?:/\\w+)+(?:\\.\\w+)?").matcher(page);
        int many = 0;
        while (names.find()) {
            many++;
            c.due(names.group() + " is there", Files.exists(Path.of(names.group())) ? 1 : 0, 1);
        }
        c.due("files are named", many > 0 ? 1 : 0, 1);
        c.due(".ci/run can be run", Files.isExecutable(Path.of(".ci", "run")) ? 1 : 0, 1);
    }

    private static void tests(String page) throws IOException {
        c.promise("README.md, the tests");
        Set<String> named = new TreeSet<>();
        Matcher names = Pattern.compile("`(\\w+Test)`").matcher(page);
        while (names.find()) {
            named.add(names.group(1));
        }
        Set<String> found = new TreeSet<>();
        try (Stream<Path> files = Files.list(TESTS)) {
            for (Path file : files.toList()) {
                String name = file.getFileName().toString().replace(".java", "");
                if (name.endsWith("Test")) {
                    found.add(name);
                } else {
                    c.due(name + " is named", page.contains("`" + name + "`") ? 1 : 0, 1);
                }
            }
        }
        c.dueText("the tests that are named", named.toString(), found.toString());
    }
}
