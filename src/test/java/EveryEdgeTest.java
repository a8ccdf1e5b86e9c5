import java.util.ArrayList;
import java.util.Arrays;
import java.util.List;
import java.util.TreeMap;

/**
 * Every call with every number at, just inside and just beyond its bounds, in several states: the answer
 * is that of PlainModel, and what is refused changes nothing.
 */
public final class EveryEdgeTest {
    private static final int LEAST = Integer.MIN_VALUE, MOST = Integer.MAX_VALUE;
    private static final int[] ROWS = {-1, 0, 1, 2, 3, 4, 5, 6}, TEXTS = {-1, 0, 1, 2, 3, 4};
    private static final int[] HOUSES = {-1, 0, 1, 4, 5}, HOURS = {-1, 0, 1, 4, 5}, SPANS = {-1, 0, 1, 3, 4};

    /** ROWS and TEXTS of all sorts: missing, of none, PLANS, books, too many, no MOVES. */
    private static final String[] LAID = {
        "row 1 0", "row 2 4", "lay 2 0 1", "lay 2 1 36", "lay 2 2 8", "lay 2 3 0", "row 3 11", "row 4 3", "lay 4 2 37",
        "row 5 1", "lay 5 0 1", "text 1 3", "text 2 0", "write 0 v01 h90- i933 p90- d60- t901"};
    private static final String[] OF_FIVE = {"village 0", "keep 0"};
    private static final String[] CARRIED = {"village 0", "strike 0", "hour", "carry 0 1", "keep 2"};
    private static final String[] FULL = {"village 0", "hours 35", "strike 4", "carry 4 2", "hours 3"};
    private static final String[] OF_ONE = {"write 3 v2h10-", "village 3", "strike 0"};

    private static final TreeMap<String, int[][]> NUMBERS = new TreeMap<>();

    public static void main(String[] args) throws Exception {
        Due.sentence("Terms", "What is refused changes nothing but finding(), findings().");
        listNumbers();
        String[][] states = {{}, LAID, with(OF_FIVE), with(CARRIED), with(FULL), with(OF_ONE)};
        for (String[] state : states) {
            for (String name : Calls.names()) {
                everyNumber(state, name);
            }
        }
        Due.finish("EveryEdgeTest");
    }

    private static String[] with(String[] more) {
        List<String> all = new ArrayList<>(Arrays.asList(LAID));
        all.addAll(Arrays.asList(more));
        return all.toArray(new String[0]);
    }

    private static void listNumbers() {
        numbers("row", ROWS, edges(0, 40));
        numbers("lay", ROWS, edges(0, 3), new int[] {LEAST, 0, MOST});
        numbers("at", ROWS, edges(0, 10));
        numbers("tear", edges(0, 5));
        numbers("copy", ROWS, SPANS, ROWS, SPANS, SPANS);
        numbers("mean", ROWS);
        numbers("text", TEXTS, edges(0, 60));
        numbers("put", TEXTS, edges(0, 2), new int[] {-129, -1, 127, 128, 256});
        numbers("fault", edges(0, 3));
        numbers("village", edges(0, 3));
        numbers("house", HOUSES, edges(0, 5));
        numbers("wind", edges(0, 999));
        numbers("mark", HOUSES, new int[] {LEAST, -1, 0, 1, 2, 3, 4, 5, 6, MOST});
        numbers("stack", HOUSES, edges(0, 9));
        numbers("strike", edges(0, 4));
        numbers("carry", HOUSES, new int[] {LEAST, -1, 0, 1, 2, 3, 4, 5, MOST});
        numbers("undo", new int[] {LEAST, -1, 0, 1, 4, 5, 39, 40, 41, MOST});
        numbers("keep", edges(0, 2));
        numbers("on", edges(0, 2));
        numbers("lasts", edges(0, 4));
        numbers("worst", edges(1, 20));
        numbers("can", edges(0, 4));
        numbers("plan", HOUSES, HOURS, ROWS);
        numbers("ways", HOUSES, edges(0, 4));
        numbers("most", HOURS, ROWS);
        numbers("serve", HOURS, ROWS);
        numbers("run", edges(0, 5));
        numbers("smoke", ROWS);
        numbers("hides", ROWS, edges(0, 31));
        numbers("spring", HOUSES, edges(0, 20));
        numbers("odds", HOUSES, ROWS, edges(0, 12));
        numbers("lots", edges(1, 10), edges(1, 2147483646));
        numbers("count", edges(0, 8));
        numbers("findings", edges(1, 5));
    }

    private static void numbers(String name, int[]... each) {
        NUMBERS.put(name, each);
    }

    /** At, inside and beyond both bounds, and the farthest numbers. */
    private static int[] edges(int low, int high) {
        return new int[] {LEAST, low - 1, low, low + 1, high - 1, high, high + 1, MOST};
    }

    private static void everyNumber(String[] state, String name) throws Exception {
        int[][] choices = NUMBERS.getOrDefault(name, new int[0][]);
        Due.due("numbers of " + name, choices.length, Calls.parameters(name));
        List<Long> untouched = probe(begun(state));
        int all = 1;
        for (int[] choice : choices) {
            all *= choice.length;
        }
        for (int i = 0; i < all; i++) {
            int[] a = new int[choices.length];
            int rest = i;
            for (int k = 0; k < a.length; k++) {
                a[k] = choices[k][rest % choices[k].length];
                rest /= choices[k].length;
            }
            oneCall(state, name, a, untouched);
        }
    }

    private static void oneCall(String[] state, String name, int[] a, List<Long> untouched) throws Exception {
        OneMatch x = begun(state);
        PlainModel model = new PlainModel();
        for (String step : state) {
            onModel(model, step);
        }
        String what = name + Arrays.toString(a) + " behind " + Arrays.toString(state);
        long findings = allFindings(x);
        long got = Calls.call(x, name, a);
        long want = model.call(name, a);
        Due.due(what, got, want);
        Due.due(what + ": asked()", x.asked(), model.asked);
        Due.due(what + ": upper()", x.upper(), model.upper.longValueExact());
        Due.due(what + ": lower()", x.lower(), model.lower.longValueExact());
        Due.due(what + ": finding()", x.finding(), model.finding);
        Due.due(what + ": findings", allFindings(x) - findings, got == Due.FINDING ? 1 : 0);
        Due.due(what + ": digest()", x.digest(), model.call("digest"));
        boolean refused = want == Due.BAD || want == Due.FULL || want == Due.STATE || want == Due.FINDING;
        if (refused) {
            Due.holds(what + ": nothing has changed", probe(x).equals(untouched));
        }
    }

    private static OneMatch begun(String[] state) throws Exception {
        OneMatch x = new OneMatch();
        for (String step : state) {
            String[] words = step.split(" ", 3);
            if (words[0].equals("write")) {
                Due.write(x, Integer.parseInt(words[1]), words[2]);
            } else if (words[0].equals("hours")) {
                Due.hours(x, Integer.parseInt(words[1]));
            } else {
                Calls.call(x, words[0], numbersOf(step));
            }
        }
        return x;
    }

    private static void onModel(PlainModel model, String step) {
        String[] words = step.split(" ", 3);
        if (words[0].equals("write")) {
            int t = Integer.parseInt(words[1]);
            model.call("text", t, words[2].length());
            for (int i = 0; i < words[2].length(); i++) {
                model.call("put", t, i, words[2].charAt(i));
            }
        } else if (words[0].equals("hours")) {
            for (int i = 0; i < Integer.parseInt(words[1]); i++) {
                model.call("hour");
            }
        } else {
            model.call(words[0], numbersOf(step));
        }
    }

    private static int[] numbersOf(String step) {
        String[] words = step.split(" ");
        int[] numbers = new int[words.length - 1];
        for (int i = 0; i < numbers.length; i++) {
            numbers[i] = Integer.parseInt(words[i + 1]);
        }
        return numbers;
    }

    private static long allFindings(OneMatch x) {
        long all = 0;
        for (int f = 1; f <= 5; f++) {
            all += x.findings(f);
        }
        return all;
    }

    /** All that can be seen of an object but its findings; it is used up by looking. */
    private static List<Long> probe(OneMatch x) {
        List<Long> seen = new ArrayList<>();
        seen.add((long) x.asked());
        seen.add(x.upper());
        seen.add(x.lower());
        look(x, seen);
        for (int k = 0; k <= 2; k++) {
            seen.add((long) x.on(k));
            look(x, seen);
        }
        return seen;
    }

    private static void look(OneMatch x, List<Long> seen) {
        for (int n = x.count(3); n >= 0; n--) {
            seen.add((long) x.undo(n));
            seen.add(x.digest());
            seen.add((long) x.reach());
            seen.add((long) x.serve(1, 0));
        }
        for (int hour = 0; hour <= 12; hour++) {
            seen.add((long) x.wind(hour));
        }
        seen.add((long) x.where());
        seen.add((long) x.asked());
    }
}
