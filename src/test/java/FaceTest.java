import java.io.IOException;
import java.lang.reflect.Field;
import java.lang.reflect.Method;
import java.lang.reflect.Modifier;
import java.nio.file.Files;
import java.nio.file.Path;
import java.util.Set;
import java.util.TreeSet;
import java.util.regex.Matcher;
import java.util.regex.Pattern;

/** The face is the document's, and the source keeps to what of LANGUAGE.md can be seen by its words. */
final class FaceTest {
    private static final Path SOURCE = Path.of("src", "main", "java", "GapStations.java");
    private static final String[] FACE = {
        "int station(int, int)", "int rule(int, int, int)", "int channel(int, int)", "int fix(int, boolean)",
        "int move(int, int, int)", "int feed(int)", "int read()", "int of(int, int)", "int apart(int, int)",
        "int at(int, int)", "int assign()", "int exchange(int, int)", "int told(int)", "int clique(int)",
        "int sorted(int)", "int see(int, int)", "int fits(int, int)", "long odds(int, int)", "long mean(int)",
        "int plan(int, int)", "int ends(int)", "int book(int, int)", "int looked()", "int judge(int, int)",
        "int image()", "int undo()", "int count(int)", "int tape(int, int, int)", "int item(int, int, long)",
        "long peek(int, int)", "int shift(int, int, int, int, int)"};
    private static final String[] FORBIDDEN = {
        "throw", "throws", "try", "catch", "finally", "synchronized", "assert", "import", "package", "volatile",
        "native", "transient", "Object", "Exception", "equals", "hashCode", "toString", "System.nanoTime",
        "System.currentTimeMillis", "Random", "Thread", "System.out", "Exact"};
    private static final int LONGEST_METHOD = 60, MOST_CLASSES = 12, MOST_FIELDS = 20, MOST_PARAMETERS = 7;

    private static final Checks c = new Checks();

    public static void main(String[] args) throws IOException {
        face();
        classes();
        String code = withoutComments(Files.readString(SOURCE));
        words(code);
        lengths(code);
        c.end();
    }

    private static void face() {
        c.promise("the public face");
        Set<String> found = new TreeSet<>();
        Set<String> hidden = new TreeSet<>();
        for (Method method : GapStations.class.getDeclaredMethods()) {
            if (Modifier.isPublic(method.getModifiers())) {
                String signature = method.toGenericString().replace("public ", "").replace("GapStations.", "");
                found.add(signature.replace(",", ", "));
            } else {
                hidden.add(method.getName());
                c.due(method.getName() + " is private", method.getModifiers() & Modifier.PRIVATE, Modifier.PRIVATE);
            }
        }
        c.dueText("the methods", found.toString(), new TreeSet<>(Set.of(FACE)).toString());
        for (String signature : FACE) {
            String name = signature.substring(signature.indexOf(' ') + 1, signature.indexOf('('));
            c.due("a private method is named " + name, hidden.contains(name) ? 1 : 0, 0);
        }
        Set<String> constants = new TreeSet<>();
        for (Field field : GapStations.class.getDeclaredFields()) {
            if (!Modifier.isPrivate(field.getModifiers())) {
                constants.add(Modifier.toString(field.getModifiers()) + " " + field.getType() + " " + field.getName());
            }
        }
        String all = "[public static final int BAD, public static final int FULL, public static final int NONE,"
            + " public static final int STATE, public static final long NO]";
        c.dueText("the constants", constants.toString(), all);
        c.due("constructors", GapStations.class.getDeclaredConstructors().length, 1);
        c.due("public constructors", GapStations.class.getConstructors().length, 1);
        c.due("public and final", GapStations.class.getModifiers(), Modifier.PUBLIC | Modifier.FINAL);
    }

    private static void classes() {
        c.promise("LANGUAGE.md, classes");
        Class<?>[] inside = GapStations.class.getDeclaredClasses();
        c.due("at most twelve classes", inside.length < MOST_CLASSES ? 1 : 0, 1);
        for (Class<?> one : inside) {
            c.due(one + " is static", one.getModifiers() & Modifier.STATIC, Modifier.STATIC);
            fields(one);
            for (Method method : one.getDeclaredMethods()) {
                c.due(method + " has few parameters", method.getParameterCount() <= MOST_PARAMETERS ? 1 : 0, 1);
            }
        }
        fields(GapStations.class);
    }

    private static void fields(Class<?> one) {
        int many = 0;
        for (Field field : one.getDeclaredFields()) {
            boolean isStatic = Modifier.isStatic(field.getModifiers());
            many += isStatic ? 0 : 1;
            c.due(field + ", if static, is final", isStatic && !Modifier.isFinal(field.getModifiers()) ? 1 : 0, 0);
        }
        c.due(one + " has few fields", many <= MOST_FIELDS ? 1 : 0, 1);
    }

    private static void words(String code) {
        c.promise("LANGUAGE.md, words");
        for (String word : FORBIDDEN) {
            Matcher matcher = Pattern.compile("\\b" + Pattern.quote(word) + "\\b").matcher(code);
            c.due(word + " is there", matcher.find() ? 1 : 0, 0);
        }
        c.due("-> is there", code.contains("->") ? 1 : 0, 0);
        c.due(":: is there", code.contains("::") ? 1 : 0, 0);
        Matcher library = Pattern.compile("\\b(Math|Integer|Long|System|Arrays|Character)\\.(\\w+)").matcher(code);
        Set<String> allowed = Set.of("Math.max", "Math.min", "Math.abs", "Math.floorDiv", "Math.floorMod",
            "Integer.compare", "Integer.bitCount", "Long.compare", "Long.bitCount", "Long.MIN_VALUE",
            "System.arraycopy", "Arrays.copyOf", "Arrays.copyOfRange", "Arrays.fill");
        while (library.find()) {
            c.due(library.group() + " is allowed", allowed.contains(library.group()) ? 1 : 0, 1);
        }
        for (int i = 0; i < code.length(); i++) {
            if (code.charAt(i) > 126) {
                c.due("the sign at " + i, code.charAt(i), 0);
            }
        }
    }

    /** A method begins at a line that ends with ") {" and ends at the brace as far in. */
    private static void lengths(String code) {
        c.promise("LANGUAGE.md, short methods");
        Pattern head = Pattern.compile("^( {4}| {8})[A-Za-z][^;=]*\\) \\{$");
        String[] lines = code.split("\n", -1);
        int methods = 0;
        for (int i = 0; i < lines.length; i++) {
            Matcher matcher = head.matcher(lines[i]);
            if (matcher.find() && !lines[i].matches(" *(if|for|while|switch)\\b.*")) {
                methods++;
                int end = i;
                while (!lines[end].equals(matcher.group(1) + "}")) {
                    end++;
                }
                c.due(lines[i].trim() + " is short", end - i < LONGEST_METHOD ? 1 : 0, 1);
            }
        }
        c.due("methods are found", methods > FACE.length ? 1 : 0, 1);
    }

    private static String withoutComments(String source) {
        return source.replaceAll("(?s)/\\*.*?\\*/", "").replaceAll("//[^\n]*", "");
    }
}
