import java.util.Arrays;
import java.util.HashMap;
import java.util.Map;
import java.util.Random;

/** Many runs of calls by the lot, on the class and on PlainModel: each answer, and all that is told. */
public final class ModelTest {
    private static final int RUNS = 1500, CALLS = 110;
    /** What goes through all PLANS is dear in the model: not too often. */
    private static final String SEARCHES = "can plan ways most serve smoke";
    private static final String DEEDS = "hour carry carry carry strike strike run odds lots undo lasts reach";

    private final Random random;
    private final String[] names = Calls.names();
    private int failures = 0;
    private final Map<String, Integer> accepted = new HashMap<>();

    private ModelTest(long seed) {
        random = new Random(seed);
    }

    public static void main(String[] args) throws Exception {
        ModelTest test = new ModelTest(20261117);
        for (int run = 0; run < RUNS && test.failures < 10; run++) {
            test.oneRun(run);
        }
        for (String name : test.names) {
            if (!test.accepted.containsKey(name)) {
                test.fail("no call of " + name + " was ever answered but by refusal");
            }
        }
        System.out.println("ModelTest: " + RUNS + " runs, " + test.failures + " failures");
        if (test.failures != 0) {
            System.exit(1);
        }
    }

    private void fail(String what) {
        failures++;
        System.out.println(what);
    }

    private void oneRun(int run) throws Exception {
        OneMatch x = new OneMatch();
        PlainModel model = new PlainModel();
        StringBuilder calls = new StringBuilder();
        if (random.nextInt(10) > 0) {
            write(x, model, calls, random.nextInt(4) == 0);
        }
        for (int i = 0; i < CALLS && x.findings(1) >= 0; i++) {
            if (random.nextInt(60) == 0) {
                write(x, model, calls, random.nextInt(2) == 0);
            }
            if (random.nextInt(8) == 0) {
                layPlanOrBook(x, model, calls);
            }
            String name = chooseName();
            if (!same(x, model, calls, name, arguments(x, name))) {
                fail("run " + run + ": " + calls);
                return;
            }
        }
    }

    private String chooseName() {
        if (random.nextInt(3) == 0) {
            String[] deeds = DEEDS.split(" ");
            return deeds[random.nextInt(deeds.length)];
        }
        String name = names[random.nextInt(names.length)];
        boolean dear = SEARCHES.contains(name);
        // a village anew is rare, so that there is something to plan with
        return name.equals("village") && random.nextInt(4) > 0 || dear && random.nextInt(2) == 0 ? "hour" : name;
    }

    /** Makes a call on both: whether the answers, and all that is told then, are the same. */
    private boolean same(OneMatch x, PlainModel model, StringBuilder calls, String name, int... a) throws Exception {
        long got = Calls.call(x, name, a);
        long want = model.call(name, a);
        calls.append(name).append(Arrays.toString(a)).append('=').append(want).append("; ");
        if (got >= 0 || name.equals("digest")) {
            accepted.merge(name, 1, Integer::sum);
        }
        String mine = got + " " + x.asked() + " " + x.upper() + "/" + x.lower() + " " + x.finding() + " " + x.digest();
        String due = want + " " + model.asked + " " + model.upper + "/" + model.lower + " " + model.finding + " "
                + model.call("digest");
        if (!mine.equals(due)) {
            calls.append(" ## answered ").append(mine).append(", due is ").append(due);
            return false;
        }
        return true;
    }

    private void write(OneMatch x, PlainModel model, StringBuilder calls, boolean broken) throws Exception {
        StringBuilder text = new StringBuilder(randomVillage());
        if (broken) {
            int place = random.nextInt(text.length());
            String signs = "v0123 hpsdti9-x";
            text.setCharAt(place, signs.charAt(random.nextInt(signs.length())));
            text.setLength(random.nextInt(3) == 0 ? random.nextInt(text.length() + 1) : text.length());
        }
        int t = random.nextInt(4);
        boolean alike = same(x, model, calls, "text", t, Math.min(60, text.length()));
        for (int i = 0; i < text.length() && i < 60; i++) {
            alike &= same(x, model, calls, "put", t, i, text.charAt(i));
        }
        alike &= same(x, model, calls, "fault", t);
        alike &= same(x, model, calls, "village", t);
        if (!alike) {
            fail("writing '" + text + "': " + calls);
        }
    }

    private String randomVillage() {
        StringBuilder text = new StringBuilder(" ".repeat(random.nextInt(2))).append('v');
        int winds = 1 + random.nextInt(6);
        for (int i = 0; i < winds; i++) {
            text.append(Math.max(0, random.nextInt(5) - 2));
        }
        int houses = random.nextInt(12) == 0 ? 6 : random.nextInt(3) == 0 ? 1 + random.nextInt(5) : 5;
        for (int i = 0; i < houses; i++) {
            text.append(" ".repeat(random.nextInt(3)));
            text.append("hpsdti".charAt(random.nextInt(6)));
            text.append(random.nextInt(4) == 0 ? random.nextInt(3) : random.nextInt(10));
            text.append(Math.max(0, random.nextInt(6) - 2));
            text.append(random.nextInt(2) == 0 ? "-" : Integer.toString(random.nextInt(6)));
        }
        return text.append(" ".repeat(random.nextInt(2))).toString();
    }

    private void layPlanOrBook(OneMatch x, PlainModel model, StringBuilder calls) throws Exception {
        int r = random.nextInt(6);
        int n = random.nextInt(6);
        int set = random.nextInt(32);
        boolean book = random.nextBoolean();
        boolean alike = same(x, model, calls, "row", r, n);
        for (int i = 0; i < n; i++) {
            set |= random.nextInt(32) & random.nextInt(32);
            set &= (1 << x.count(0)) - 1;
            int move = random.nextInt(4) == 0 ? 36 : 6 * random.nextInt(5) + random.nextInt(5);
            alike &= same(x, model, calls, "lay", r, i, book ? set : move);
        }
        if (book) {
            // a book of what truly burns fits more often
            alike &= same(x, model, calls, "smoke", r);
            alike &= same(x, model, calls, "hides", r, random.nextInt(8));
        }
        if (!alike) {
            fail("laying a row: " + calls);
        }
    }

    private int[] arguments(OneMatch x, String name) {
        int houses = x.count(0);
        switch (name) {
            case "row": return ints(row(), random.nextInt(5) == 0 ? any(44) : random.nextInt(6));
            case "lay": return ints(row(), any(6), random.nextInt(5) == 0 ? random.nextInt() : random.nextInt(40) - 2);
            case "at": return ints(row(), any(6));
            case "copy": return ints(row(), any(5), row(), any(5), any(4));
            case "tear": case "mean": case "run": case "smoke": return ints(row());
            case "text": return ints(any(3), any(61));
            case "put": return ints(any(3), any(60), random.nextInt(600) - 200);
            case "fault": case "village": return ints(any(3));
            case "house": case "mark": return ints(any(houses - 1), any(5));
            case "wind": return ints(random.nextInt(4) == 0 ? any(999) : random.nextInt(50));
            case "stack": return ints(any(houses - 1), any(9));
            case "strike": case "lasts": return ints(any(houses - 1));
            case "carry": return ints(any(houses - 1), any(houses - 1));
            case "undo": return ints(any(x.count(3)));
            case "keep": case "on": return ints(any(2));
            case "worst": return ints(any(20));
            case "can": return ints(any(4));
            case "plan": return ints(any(houses - 1), any(4), row());
            case "ways": return ints(any(houses - 1), any(4));
            case "most": case "serve": return ints(any(4), row());
            case "hides": return ints(row(), any((1 << houses) - 1));
            case "spring": return ints(any(houses - 1), any(20));
            case "odds": return ints(any(houses - 1), row(), any(12));
            case "lots": return ints(any(4), random.nextInt(9) == 0 ? any(1) : random.nextInt());
            case "count": return ints(any(8));
            case "findings": return ints(any(5));
            default: return new int[0];
        }
    }

    private static int[] ints(int... values) {
        return values;
    }

    private int row() {
        return any(5);
    }

    /** Mostly 0 .. most, now and then just beside that, or far out. */
    private int any(int most) {
        int[] edges = {-1, most + 1, Integer.MIN_VALUE, Integer.MAX_VALUE, most, 0};
        return random.nextInt(16) == 0 ? edges[random.nextInt(edges.length)] : random.nextInt(Math.max(1, most + 1));
    }
}
