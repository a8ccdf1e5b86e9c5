import java.io.IOException;
import java.lang.reflect.InvocationTargetException;
import java.net.URL;
import java.net.URLClassLoader;
import java.nio.file.Files;
import java.nio.file.Path;
import java.util.ArrayList;
import java.util.List;
import java.util.Map;
import java.util.TreeMap;
import java.util.TreeSet;
import java.util.regex.Matcher;
import java.util.regex.Pattern;
import javax.tools.ToolProvider;

/** The Java pieces of README.md, compiled and run as one: each call answers as stands behind it. */
public final class ReadmeTest {
    private static final Path README = Path.of("README.md");
    private static final Pattern CALL = Pattern.compile("^\\s*(x\\.\\w+\\(.*\\));\\s*(?:// (-?\\d+)(?![\\w.]).*)?$");
    private static final String NAME = "ReadmeCalls";

    /** By the number of its line: each call that README.md shows, and the answer that it says. */
    private static final Map<Integer, String> CALLS = new TreeMap<>();
    private static final Map<Integer, Long> ANSWERS = new TreeMap<>();

    public static void main(String[] args) throws Exception {
        String source = program(Files.readAllLines(README));
        List<long[]> got = run(source);
        TreeSet<Integer> made = new TreeSet<>();
        for (long[] lineAndAnswer : got) {
            int line = (int) lineAndAnswer[0];
            made.add(line);
            Due.due("README.md:" + line + ": " + CALLS.get(line), lineAndAnswer[1], ANSWERS.get(line));
        }
        Due.holds("every call of README.md was made", made.equals(CALLS.keySet()));
        Due.holds("README.md shows calls", CALLS.size() > 20);
        Due.holds("one object is used for at most 512 calls", got.size() <= 512);
        Due.finish("ReadmeTest");
    }

    /** The pieces as one program, in which each call hands its line's number and its answer on. */
    private static String program(List<String> lines) {
        StringBuilder source = new StringBuilder("public final class " + NAME + " {\n"
                + "    public static java.util.List<long[]> answers() {\n"
                + "        java.util.List<long[]> got = new java.util.ArrayList<>();\n");
        boolean within = false;
        for (int i = 0; i < lines.size(); i++) {
            String line = lines.get(i);
            if (line.startsWith("```")) {
                within = line.equals("```java");
            } else if (within) {
                source.append(statement(i + 1, line)).append('\n');
            }
        }
        return source.append("        return got;\n    }\n}\n").toString();
    }

    private static String statement(int number, String line) {
        Matcher call = CALL.matcher(line);
        if (!call.matches()) {
            Due.holds("README.md:" + number + ": calls stand on lines of their own", !line.contains("x."));
            return line;
        }
        Due.holds("README.md:" + number + ": it says what it answers", call.group(2) != null);
        CALLS.put(number, call.group(1));
        ANSWERS.put(number, call.group(2) == null ? 0 : Long.parseLong(call.group(2)));
        return "got.add(new long[] {" + number + ", " + call.group(1) + "});";
    }

    private static List<long[]> run(String source) throws IOException, ReflectiveOperationException {
        Path folder = Files.createTempDirectory("readme");
        Path file = folder.resolve(NAME + ".java");
        Path made = folder.resolve(NAME + ".class");
        try {
            Files.writeString(file, source);
            int wrong = ToolProvider.getSystemJavaCompiler().run(null, null, null, "-encoding", "UTF-8",
                    "-cp", System.getProperty("java.class.path"), "-d", folder.toString(), file.toString());
            Due.due("README.md's pieces compile", wrong, 0);
            return wrong == 0 ? answers(folder) : new ArrayList<>();
        } finally {
            Files.deleteIfExists(made);
            Files.deleteIfExists(file);
            Files.deleteIfExists(folder);
        }
    }

    @SuppressWarnings("unchecked")
    private static List<long[]> answers(Path folder) throws IOException, ReflectiveOperationException {
        try (URLClassLoader loader = new URLClassLoader(new URL[] {folder.toUri().toURL()})) {
            return (List<long[]>) loader.loadClass(NAME).getMethod("answers").invoke(null);
        } catch (InvocationTargetException thrown) {
            Due.holds("README.md's pieces run: " + thrown.getCause(), false);
            return new ArrayList<>();
        }
    }
}
