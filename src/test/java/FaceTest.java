import java.lang.management.ManagementFactory;
import java.lang.reflect.Constructor;
import java.lang.reflect.Field;
import java.lang.reflect.Method;
import java.lang.reflect.Modifier;
import java.nio.file.Files;
import java.nio.file.Path;
import java.util.ArrayList;
import java.util.List;
import java.util.Set;
import java.util.TreeSet;
import java.util.regex.Matcher;
import java.util.regex.Pattern;

/** The public face, the rules of the language that can be looked at, and that calls make no objects. */
public final class FaceTest {
    private static final String[] FACE = {
        "int row(int,int)", "int lay(int,int,int)", "int at(int,int)", "int tear(int)",
        "int copy(int,int,int,int,int)", "int mean(int)", "int text(int,int)", "int put(int,int,int)",
        "int fault(int)", "int village(int)", "int house(int,int)", "int wind(int)", "int mark(int,int)",
        "int stack(int,int)", "int strike(int)", "int carry(int,int)", "int hour()", "int undo(int)",
        "int keep(int)", "int on(int)", "int fires()", "int reach()", "int lasts(int)", "int dark()",
        "int worst(int)", "int can(int)", "int plan(int,int,int)", "int ways(int,int)", "int most(int,int)",
        "int serve(int,int)", "int run(int)", "int where()", "int smoke(int)", "int hides(int,int)",
        "int spring(int,int)", "int odds(int,int,int)", "int lots(int,int)", "int asked()", "long upper()",
        "long lower()", "int count(int)", "int finding()", "int findings(int)", "long digest()"};

    public static void main(String[] args) throws Exception {
        constants();
        face();
        String source = withoutComments(Files.readString(Path.of("src/main/java/OneMatch.java")));
        words(source);
        sizes(source);
        room();
        Due.finish("FaceTest");
    }

    private static void constants() throws Exception {
        String[] names = {"BAD", "FULL", "FINDING", "STATE", "SPENT", "NONE"};
        int[] values = {-1, -2, -3, -4, -6, -9};
        for (int i = 0; i < names.length; i++) {
            Field field = OneMatch.class.getField(names[i]);
            Due.due(names[i], field.getInt(null), values[i]);
            Due.due(names[i] + " is a constant", Modifier.isStatic(field.getModifiers())
                    && Modifier.isFinal(field.getModifiers()) ? 1 : 0, 1);
        }
        int open = 0;
        for (Field field : OneMatch.class.getDeclaredFields()) {
            open += Modifier.isPrivate(field.getModifiers()) ? 0 : 1;
        }
        Due.due("fields that are not private", open, names.length);
    }

    private static void face() {
        Set<String> due = new TreeSet<>(List.of(FACE));
        Set<String> open = new TreeSet<>();
        Set<String> openNames = new TreeSet<>();
        for (Method method : OneMatch.class.getDeclaredMethods()) {
            if (!Modifier.isPrivate(method.getModifiers())) {
                open.add(signature(method));
                openNames.add(method.getName());
            }
        }
        Due.due("methods that are not private " + open, open.equals(due) ? 1 : 0, 1);
        for (Method method : OneMatch.class.getDeclaredMethods()) {
            Due.due("private " + method.getName() + " bears a public name",
                    Modifier.isPrivate(method.getModifiers()) && openNames.contains(method.getName()) ? 1 : 0, 0);
        }
        Due.due("constructors", OneMatch.class.getDeclaredConstructors().length, 1);
        Constructor<?> constructor = OneMatch.class.getDeclaredConstructors()[0];
        Due.due("a public constructor", Modifier.isPublic(constructor.getModifiers()) ? 1 : 0, 1);
        Due.due("without parameters", constructor.getParameterCount(), 0);
        Due.due("public and final", OneMatch.class.getModifiers(), Modifier.PUBLIC | Modifier.FINAL);
        Class<?>[] inside = OneMatch.class.getDeclaredClasses();
        Due.due("at most twelve classes", inside.length + 1 <= 12 ? 1 : 0, 1);
        for (Class<?> nested : inside) {
            Due.due(nested.getName() + " is private and static",
                    nested.getModifiers() & (Modifier.PRIVATE | Modifier.STATIC), Modifier.PRIVATE | Modifier.STATIC);
            Due.due(nested.getName() + " has no classes inside", nested.getDeclaredClasses().length, 0);
            for (Method method : nested.getDeclaredMethods()) {
                Due.due(nested.getName() + "." + method.getName() + " bears a public name",
                        Modifier.isPrivate(method.getModifiers()) && openNames.contains(method.getName()) ? 1 : 0, 0);
            }
            Due.due(nested.getName() + " has some twenty fields", ownFields(nested) <= 20 ? 1 : 0, 1);
        }
        Due.due("some twenty fields", ownFields(OneMatch.class) <= 20 ? 1 : 0, 1);
    }

    private static int ownFields(Class<?> type) {
        int fields = 0;
        for (Field field : type.getDeclaredFields()) {
            fields += Modifier.isStatic(field.getModifiers()) ? 0 : 1;
            Due.due(type.getName() + "." + field.getName() + ": static and not final",
                    Modifier.isStatic(field.getModifiers()) && !Modifier.isFinal(field.getModifiers()) ? 1 : 0, 0);
        }
        return fields;
    }

    private static String signature(Method method) {
        List<String> types = new ArrayList<>();
        for (Class<?> type : method.getParameterTypes()) {
            types.add(type.getName());
        }
        return method.getReturnType().getName() + " " + method.getName() + "(" + String.join(",", types) + ")";
    }

    private static String withoutComments(String source) {
        return Pattern.compile("/\\*.*?\\*/", Pattern.DOTALL).matcher(source).replaceAll("").replaceAll("//[^\n]*", "");
    }

    private static void words(String source) {
        String[] words = {"throw", "throws", "try", "catch", "synchronized", "assert", "import", "package", "Thread",
            "Random", "Exact", "protected", "default ->", "::", "->"};
        for (String word : words) {
            boolean isWord = Character.isLetter(word.charAt(0));
            String pattern = isWord ? "\\b" + word + "\\b" : Pattern.quote(word);
            Due.due("'" + word + "' in the class", Pattern.compile(pattern).matcher(source).find() ? 1 : 0, 0);
        }
        Matcher library = Pattern.compile("\\b(System|Math|Integer|Long|Arrays|String|Character)\\.(\\w+)").matcher(source);
        Set<String> allowed = Set.of("System.arraycopy", "Math.max", "Math.min", "Math.abs", "Integer.bitCount");
        while (library.find()) {
            Due.due("library " + library.group(), allowed.contains(library.group()) ? 1 : 0, 1);
        }
        // all that the object needs is made in constructors or as fields are set up
        int made = 0;
        Matcher maker = Pattern.compile("\\bnew \\w+").matcher(source);
        while (maker.find()) {
            made++;
        }
        Due.due("places that make objects", made <= 40 ? 1 : 0, 1);
    }

    private static void sizes(String source) {
        String[] lines = source.split("\n");
        Pattern head = Pattern.compile("^ +(?:(?:public|private|static|final) )*[\\w\\[\\]]+ \\w+\\(([^)]*)\\) \\{$");
        for (int i = 0; i < lines.length; i++) {
            Matcher matcher = head.matcher(lines[i]);
            if (matcher.find()) {
                int indent = lines[i].length() - lines[i].stripLeading().length();
                int end = i;
                while (!lines[end].equals(" ".repeat(indent) + "}")) {
                    end++;
                }
                Due.due(lines[i].trim() + ": lines", end - i <= 60 ? 1 : 0, 1);
                Due.due(lines[i].trim() + ": parameters", matcher.group(1).split(",").length <= 7 ? 1 : 0, 1);
            }
        }
    }

    /** 512 of the dearest calls make next to nothing. */
    private static void room() {
        OneMatch x = Due.village("v0h90-h90-h90-h90-h90-");
        x.strike(2);
        Due.lay(x, 0, 4);
        Due.lay(x, 1, 12, 13, 15, 4);
        dearCalls(x);
        com.sun.management.ThreadMXBean threads = (com.sun.management.ThreadMXBean) ManagementFactory.getThreadMXBean();
        long me = Thread.currentThread().getId();
        long before = threads.getThreadAllocatedBytes(me);
        for (int i = 0; i < 100; i++) {
            dearCalls(x);
        }
        long made = threads.getThreadAllocatedBytes(me) - before;
        Due.due("bytes made by 900 calls: " + made, made < 100_000 ? 1 : 0, 1);
    }

    private static void dearCalls(OneMatch x) {
        x.ways(4, 4);
        x.can(4);
        x.most(4, 2);
        x.serve(4, 3);
        x.plan(4, 4, 4);
        x.smoke(0);
        x.odds(3, 1, 5);
        x.village(0);
        x.strike(2);
    }
}
