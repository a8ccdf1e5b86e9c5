import java.math.BigInteger;
import java.util.ArrayList;
import java.util.Collections;
import java.util.HashMap;
import java.util.List;
import java.util.Map;
import java.util.TreeMap;
import java.util.TreeSet;
import java.util.regex.Matcher;
import java.util.regex.Pattern;

/**
 * A second reading of the document, plain and slow: the village is worked out anew from its deeds for
 * each call, plans are listed whole, refusals are thrown. It shares no code with the class.
 */
final class PlainModel {
    /** A refusal on its way out of a call. */
    static final class Refused extends RuntimeException {
        private static final long serialVersionUID = 1L;
        final int answer;
        final int finding;

        Refused(int answer, int finding) {
            super(null, null, false, false);
            this.answer = answer;
            this.finding = finding;
        }
    }

    record House(char letter, int wood, int wet, int need) {
    }

    /** A village with its wood as stacked, and the deeds: "s" and a house, "c" and two houses, "h". */
    record Kept(List<House> houses, List<String> deeds) {
    }

    /** How it is behind some deeds. */
    static final class Now {
        int hour = 0;
        boolean struck = false;
        boolean carried = false;
        final int[] wood;
        final int[] wet;
        final TreeSet<Integer> fire = new TreeSet<>();

        Now(int houses) {
            wood = new int[houses];
            wet = new int[houses];
        }

        Now copy() {
            Now now = new Now(wood.length);
            now.hour = hour;
            now.struck = struck;
            now.carried = carried;
            System.arraycopy(wood, 0, now.wood, 0, wood.length);
            System.arraycopy(wet, 0, now.wet, 0, wet.length);
            now.fire.addAll(fire);
            return now;
        }

        int bits() {
            int bits = 0;
            for (int h : fire) {
                bits += 1 << h;
            }
            return bits;
        }
    }

    private static final Pattern VILLAGE = Pattern.compile(" *v[0-2]{1,6} *(?:[hpsdti][0-9][0-3][0-9-] *){1,5}");
    private static final Pattern HOUSE = Pattern.compile("([hpsdti])([0-9])([0-3])([0-9-])");
    private static final String LETTERS = "hpsdti";

    private final Map<Integer, int[]> rows = new TreeMap<>();
    private final Map<Integer, byte[]> texts = new TreeMap<>();
    private final Map<Integer, Kept> kept = new HashMap<>();
    private String winds = "";
    private List<House> houses = new ArrayList<>();
    private List<String> deeds = new ArrayList<>();
    private final int[] findings = new int[6];
    int finding = 0;
    int asked = 0;
    BigInteger upper = BigInteger.ZERO;
    BigInteger lower = BigInteger.ONE;

    /** The answer of a call by its name. */
    long call(String name, int... a) {
        try {
            return answer(name, a);
        } catch (Refused refused) {
            if (refused.finding != 0) {
                finding = refused.finding;
                findings[finding]++;
            }
            return refused.answer;
        }
    }

    private long answer(String name, int[] a) {
        switch (name) {
            case "row": return row(a[0], a[1]);
            case "lay": return lay(a[0], a[1], a[2]);
            case "at": return at(a[0], a[1]);
            case "tear": return tear(a[0]);
            case "copy": return copy(a[0], a[1], a[2], a[3], a[4]);
            case "mean": return mean(a[0]);
            case "text": return text(a[0], a[1]);
            case "put": return put(a[0], a[1], a[2]);
            case "fault": return fault(a[0]);
            case "village": return village(a[0]);
            case "house": return house(a[0], a[1]);
            case "wind": return wind(a[0]);
            case "mark": return mark(a[0], a[1]);
            case "stack": return stack(a[0], a[1]);
            case "strike": return strike(a[0]);
            case "carry": return carry(a[0], a[1]);
            case "hour": return hour();
            case "undo": return undo(a[0]);
            case "keep": return keep(a[0]);
            case "on": return on(a[0]);
            case "fires": return fires();
            case "reach": return reach();
            case "lasts": return lasts(a[0]);
            case "dark": return dark();
            case "worst": return worst(a[0]);
            case "can": return can(a[0]);
            case "plan": return plan(a[0], a[1], a[2]);
            case "ways": return ways(a[0], a[1]);
            case "most": return most(a[0], a[1]);
            case "serve": return serve(a[0], a[1]);
            case "run": return run(a[0]);
            case "where": return where();
            case "smoke": return smoke(a[0]);
            case "hides": return hides(a[0], a[1]);
            case "spring": return spring(a[0], a[1]);
            case "odds": return odds(a[0], a[1], a[2]);
            case "lots": return lots(a[0], a[1]);
            case "asked": return asked;
            case "upper": return upper.longValueExact();
            case "lower": return lower.longValueExact();
            case "count": return count(a[0]);
            case "finding": return finding;
            case "findings": return findings(a[0]);
            case "digest": return digest();
            default: throw new IllegalArgumentException(name);
        }
    }

    // ---- refusals

    private static void refuse(boolean when, int answer) {
        if (when) {
            throw new Refused(answer, 0);
        }
    }

    private static void bad(boolean when) {
        refuse(when, -1);
    }

    private static void find(boolean when, int finding) {
        if (when) {
            throw new Refused(-3, finding);
        }
    }

    private static boolean outside(int v, int least, int most) {
        return v < least || v > most;
    }

    private boolean noHouse(int h) {
        return outside(h, 0, houses.size() - 1);
    }

    private int[] rowThere(int r) {
        find(!rows.containsKey(r), 1);
        return rows.get(r);
    }

    private byte[] textThere(int t) {
        find(!texts.containsKey(t), 1);
        return texts.get(t);
    }

    // ---- 1 rows, texts, villages

    private int row(int r, int n) {
        bad(outside(r, 0, 5) || n > 40);
        find(n < 0, 5);
        rows.put(r, new int[n]);
        return n;
    }

    private int lay(int r, int i, int v) {
        bad(outside(r, 0, 5));
        int[] row = rowThere(r);
        find(outside(i, 0, row.length - 1), 2);
        asked = row[i];
        row[i] = v;
        return 1;
    }

    private int at(int r, int i) {
        bad(outside(r, 0, 5));
        int[] row = rowThere(r);
        find(outside(i, 0, row.length - 1), 2);
        asked = row[i];
        return 1;
    }

    private int tear(int r) {
        bad(outside(r, 0, 5));
        rowThere(r);
        rows.remove(r);
        return 1;
    }

    private int copy(int r, int i, int to, int j, int n) {
        bad(outside(r, 0, 5) || outside(to, 0, 5));
        find(n < 0, 5);
        int[] from = rowThere(r);
        int[] onto = rowThere(to);
        find(i < 0 || j < 0 || (long) i + n > from.length || (long) j + n > onto.length, 2);
        int[] taken = new int[n];
        for (int k = 0; k < n; k++) {
            taken[k] = from[i + k];
        }
        for (int k = 0; k < n; k++) {
            onto[j + k] = taken[k];
        }
        return 1;
    }

    private int mean(int r) {
        bad(outside(r, 0, 5));
        int[] row = rowThere(r);
        find(row.length == 0, 4);
        BigInteger sum = BigInteger.ZERO;
        for (int v : row) {
            sum = sum.add(BigInteger.valueOf(v));
        }
        asked = sum.divide(BigInteger.valueOf(row.length)).intValueExact();
        return 1;
    }

    private int text(int t, int n) {
        bad(outside(t, 0, 3) || n > 60);
        find(n < 0, 5);
        byte[] blanks = new byte[n];
        java.util.Arrays.fill(blanks, (byte) ' ');
        texts.put(t, blanks);
        return n;
    }

    private int put(int t, int i, int v) {
        bad(outside(t, 0, 3));
        byte[] text = textThere(t);
        find(outside(i, 0, text.length - 1), 2);
        int was = text[i];
        text[i] = (byte) v;
        return was + 1000;
    }

    private int fault(int t) {
        bad(outside(t, 0, 3));
        String text = string(textThere(t));
        for (int end = 1; end <= text.length(); end++) {
            Matcher matcher = VILLAGE.matcher(text.substring(0, end));
            if (!matcher.matches() && !matcher.hitEnd()) {
                return end - 1;
            }
        }
        return VILLAGE.matcher(text).matches() ? -9 : text.length();
    }

    private static String string(byte[] bytes) {
        StringBuilder text = new StringBuilder();
        for (byte b : bytes) {
            text.append((char) (b & 255));
        }
        return text.toString();
    }

    private int village(int t) {
        bad(outside(t, 0, 3));
        String text = string(textThere(t));
        refuse(fault(t) != -9, -4);
        String start = text.trim().substring(1);
        int figures = 0;
        while (start.charAt(figures) >= '0' && start.charAt(figures) <= '2') {
            figures++;
        }
        winds = start.substring(0, figures);
        houses = new ArrayList<>();
        Matcher house = HOUSE.matcher(start.substring(figures));
        while (house.find()) {
            String need = house.group(4);
            houses.add(new House(house.group(1).charAt(0), Integer.parseInt(house.group(2)),
                    Integer.parseInt(house.group(3)), need.equals("-") ? -9 : Integer.parseInt(need)));
        }
        deeds = new ArrayList<>();
        kept.clear();
        return houses.size();
    }

    private int house(int h, int what) {
        bad(noHouse(h) || outside(what, 0, 5));
        asked = fact(now(), h, what);
        return 1;
    }

    private int fact(Now now, int h, int what) {
        switch (what) {
            case 0: return LETTERS.indexOf(houses.get(h).letter());
            case 1: return now.wood[h];
            case 2: return now.wet[h];
            case 3: return houses.get(h).need();
            case 4: return now.fire.contains(h) ? 1 : 0;
            default: return catches(now, h) ? 1 : 0;
        }
    }

    private int wind(int hour) {
        bad(outside(hour, 0, 999));
        refuse(houses.isEmpty(), -4);
        return windOf(hour);
    }

    private int windOf(int hour) {
        return winds.charAt(hour % winds.length()) - '0';
    }

    private int mark(int h, int kind) {
        bad(noHouse(h) || outside(kind, 1, 5));
        char letter = houses.get(h).letter();
        String kindsAre = new String[] {"", "pt", "si", "d", "t", "i"}[kind];
        find(kindsAre.indexOf(letter) < 0, 3);
        Now now = now();
        switch (kind) {
            case 1: return letter == 't' ? 2 : 4;
            case 2: return letter == 'i' ? 0 : 2;
            case 3: return (int) Math.ceil(now.wood[h] / 2.0);
            case 4:
                int hours = 0;
                while ((now.hour + hours) % 4 != 0) {
                    hours++;
                }
                return hours;
            default:
                int wet = 0;
                for (int k = 0; k < houses.size(); k++) {
                    wet += Math.abs(k - h) == 1 && now.wet[k] > 0 ? 1 : 0;
                }
                return wet;
        }
    }

    private int stack(int h, int v) {
        bad(noHouse(h) || outside(v, 0, 9));
        refuse(!deeds.isEmpty(), -4);
        House was = houses.get(h);
        houses.set(h, new House(was.letter(), v, was.wet(), was.need()));
        return was.wood();
    }

    // ---- how it is

    private Now first() {
        Now now = new Now(houses.size());
        for (int h = 0; h < houses.size(); h++) {
            now.wood[h] = houses.get(h).wood();
            now.wet[h] = houses.get(h).wet();
        }
        return now;
    }

    private Now now() {
        Now now = first();
        for (String deed : deeds) {
            switch (deed.charAt(0)) {
                case 's':
                    strikeIn(now, deed.charAt(1) - '0');
                    break;
                case 'c':
                    carryTo(now, deed.charAt(2) - '0');
                    break;
                default:
                    pass(now);
            }
        }
        return now;
    }

    private static void strikeIn(Now now, int h) {
        now.struck = true;
        now.fire.add(h);
    }

    private static void carryTo(Now now, int h) {
        now.carried = true;
        now.fire.add(h);
    }

    private boolean catches(Now now, int h) {
        char letter = houses.get(h).letter();
        if (now.wood[h] == 0) {
            return false;
        }
        return letter == 'i' || letter == 's' && now.wet[h] == 1 || now.wet[h] == 0;
    }

    private boolean canCarry(Now now, int from, int to) {
        return !noHouse(from) && !noHouse(to) && !now.carried && now.fire.contains(from)
                && !now.fire.contains(to) && catches(now, to)
                && Math.max(from, to) - Math.min(from, to) <= 3 - windOf(now.hour);
    }

    private int takes(int h, int hour) {
        switch (houses.get(h).letter()) {
            case 'd': return 2;
            case 'p': return 1 - hour % 2;
            case 't': return hour % 4 == 0 ? 1 : 0;
            default: return 1;
        }
    }

    private void pass(Now now) {
        TreeSet<Integer> burnt = new TreeSet<>(now.fire);
        for (int h : burnt) {
            now.wood[h] -= Math.min(now.wood[h], takes(h, now.hour));
        }
        now.fire.removeIf(h -> now.wood[h] == 0);
        for (int h = 0; h < houses.size(); h++) {
            if (!burnt.contains(h) && now.wet[h] > 0 && (burnt.contains(h - 1) || burnt.contains(h + 1))) {
                now.wet[h]--;
            }
        }
        now.hour++;
        now.carried = false;
    }

    /** The states at this time and behind each of so many hours in which nothing is carried. */
    private List<Now> idle(Now start, int hours) {
        List<Now> states = new ArrayList<>();
        Now now = start.copy();
        for (int i = 0; i <= hours; i++) {
            states.add(now.copy());
            pass(now);
        }
        return states;
    }

    // ---- 2 deeds

    private int strike(int h) {
        bad(noHouse(h));
        Now now = now();
        refuse(now.struck || !catches(now, h), -4);
        refuse(deeds.size() >= 40, -2);
        deeds.add("s" + h);
        return 1;
    }

    private int carry(int h, int k) {
        bad(noHouse(h) || noHouse(k) || h == k);
        refuse(!canCarry(now(), h, k), -4);
        refuse(deeds.size() >= 40, -2);
        deeds.add("c" + h + k);
        return now().fire.size();
    }

    private int hour() {
        refuse(houses.isEmpty(), -4);
        refuse(deeds.size() >= 40, -2);
        deeds.add("h");
        return now().fire.size();
    }

    private int undo(int n) {
        bad(outside(n, 0, deeds.size()));
        int undone = deeds.size() - n;
        deeds = new ArrayList<>(deeds.subList(0, n));
        return undone;
    }

    private int keep(int k) {
        bad(outside(k, 0, 2));
        refuse(houses.isEmpty(), -4);
        kept.put(k, new Kept(List.copyOf(houses), List.copyOf(deeds)));
        return deeds.size();
    }

    private int on(int k) {
        bad(outside(k, 0, 2));
        find(!kept.containsKey(k), 1);
        houses = new ArrayList<>(kept.get(k).houses());
        deeds = new ArrayList<>(kept.get(k).deeds());
        return deeds.size();
    }

    // ---- 3 what burns, how long

    private int fires() {
        Now now = now();
        asked = 0;
        for (int h = 0; h < houses.size(); h++) {
            asked |= catches(now, h) ? 1 << h : 0;
        }
        return now.bits();
    }

    private int reach() {
        Now now = now();
        TreeSet<Integer> to = new TreeSet<>();
        for (int h = 0; h < houses.size(); h++) {
            for (int k = 0; k < houses.size(); k++) {
                if (canCarry(now, h, k)) {
                    to.add(k);
                }
            }
        }
        int bits = 0;
        for (int k : to) {
            bits |= 1 << k;
        }
        return bits;
    }

    private int lasts(int h) {
        bad(noHouse(h));
        return hoursOf(now(), h);
    }

    private int hoursOf(Now start, int h) {
        int hours = 0;
        for (Now state : idle(start, 50)) {
            hours += state.fire.contains(h) ? 1 : 0;
        }
        return hours;
    }

    private int dark() {
        int hours = 0;
        for (Now state : idle(now(), 50)) {
            hours += state.fire.isEmpty() ? 0 : 1;
        }
        return hours;
    }

    private int worst(int n) {
        bad(outside(n, 1, 20));
        refuse(houses.isEmpty(), -4);
        List<Now> states = idle(now(), n);
        List<Integer> burning = new ArrayList<>();
        for (Now state : states.subList(1, n + 1)) {
            burning.add(state.fire.size());
        }
        asked = Collections.min(burning);
        return burning.indexOf(asked) + 1;
    }

    // ---- 4 plans

    /** A plan with its states behind each move, and at last. */
    record Plan(List<Integer> moves, List<Now> behindMoves, Now end) {
        int carried() {
            int carried = 0;
            for (int move : moves) {
                carried += move == 36 ? 0 : 1;
            }
            return carried;
        }
    }

    private List<Plan> allPlans(Now start, int n) {
        List<Plan> plans = new ArrayList<>();
        plans.add(new Plan(List.of(), List.of(), start.copy()));
        for (int i = 0; i < n; i++) {
            List<Plan> longer = new ArrayList<>();
            for (Plan plan : plans) {
                for (int move = 0; move <= 36; move++) {
                    if (move == 36 || canCarry(plan.end(), move / 6, move % 6)) {
                        longer.add(goOn(plan, move));
                    }
                }
            }
            plans = longer;
        }
        return plans;
    }

    private Plan goOn(Plan plan, int move) {
        Now behind = plan.end().copy();
        if (move != 36) {
            carryTo(behind, move % 6);
        }
        Now end = behind.copy();
        pass(end);
        List<Integer> moves = new ArrayList<>(plan.moves());
        moves.add(move);
        List<Now> states = new ArrayList<>(plan.behindMoves());
        states.add(behind);
        return new Plan(moves, states, end);
    }

    private void layPlan(int r, Plan plan) {
        int[] row = new int[plan.moves().size()];
        for (int i = 0; i < row.length; i++) {
            row[i] = plan.moves().get(i);
        }
        rows.put(r, row);
    }

    private int can(int n) {
        bad(outside(n, 0, 4));
        int bits = 0;
        for (Plan plan : allPlans(now(), n)) {
            bits |= plan.end().bits();
        }
        return bits;
    }

    private int plan(int h, int n, int r) {
        bad(noHouse(h) || outside(n, 0, 4) || outside(r, 0, 5));
        for (Plan plan : allPlans(now(), n)) {
            if (plan.end().fire.contains(h)) {
                layPlan(r, plan);
                return plan.carried();
            }
        }
        return -9;
    }

    private int ways(int h, int n) {
        bad(noHouse(h) || outside(n, 0, 4));
        List<Plan> plans = allPlans(now(), n);
        tell(plans.size(), 1);
        asked = 0;
        for (Plan plan : plans) {
            asked += plan.end().fire.contains(h) ? 1 : 0;
        }
        return 1;
    }

    private void tell(long above, long below) {
        BigInteger common = BigInteger.valueOf(above).gcd(BigInteger.valueOf(below));
        upper = BigInteger.valueOf(above).divide(common);
        lower = BigInteger.valueOf(below).divide(common);
    }

    private int most(int n, int r) {
        bad(outside(n, 0, 4) || outside(r, 0, 5));
        refuse(houses.isEmpty(), -4);
        List<Plan> plans = allPlans(now(), n);
        Plan best = plans.get(0);
        for (Plan plan : plans) {
            best = plan.end().fire.size() > best.end().fire.size() ? plan : best;
        }
        layPlan(r, best);
        return best.end().fire.size();
    }

    private int serve(int n, int r) {
        bad(outside(n, 0, 4) || outside(r, 0, 5));
        refuse(houses.isEmpty(), -4);
        for (Plan plan : allPlans(now(), n)) {
            List<Now> states = new ArrayList<>(plan.behindMoves());
            states.add(plan.end());
            if (states.stream().allMatch(this::served)) {
                layPlan(r, plan);
                return plan.carried();
            }
        }
        return -9;
    }

    private boolean served(Now state) {
        for (int h = 0; h < houses.size(); h++) {
            if (houses.get(h).need() == state.hour && !state.fire.contains(h)) {
                return false;
            }
        }
        return true;
    }

    private int[] movesThere(int r, int most) {
        int[] moves = rowThere(r);
        find(moves.length > most, 5);
        for (int move : moves) {
            find(outside(move, 0, 36), 3);
        }
        return moves;
    }

    private int run(int r) {
        bad(outside(r, 0, 5));
        refuse(houses.isEmpty(), -4);
        int[] moves = movesThere(r, 10);
        Now now = now();
        for (int move : moves) {
            if (move < 36 && canCarry(now, move / 6, move % 6)) {
                carryTo(now, move % 6);
            }
            pass(now);
        }
        asked = java.util.Arrays.stream(now.wood).sum();
        return now.bits();
    }

    // ---- 5 striking, smoke

    private int where() {
        Now first = first();
        int bits = 0;
        int best = 0;
        asked = -9;
        for (int h = 0; h < houses.size(); h++) {
            if (catches(first, h)) {
                Now struck = first.copy();
                strikeIn(struck, h);
                int hours = hoursOf(struck, h);
                bits |= 1 << h;
                if (hours > best) {
                    best = hours;
                    asked = h;
                }
            }
        }
        return bits;
    }

    private int[] bookThere(int r) {
        refuse(houses.isEmpty(), -4);
        int[] book = rowThere(r);
        find(outside(book.length, 1, 5), 5);
        for (int set : book) {
            find(outside(set, 0, (1 << houses.size()) - 1), 3);
        }
        return book;
    }

    private int smoke(int r) {
        bad(outside(r, 0, 5));
        int[] book = bookThere(r);
        int ways = 0;
        int bits = 0;
        for (int h = 0; h < houses.size(); h++) {
            Now first = first();
            if (catches(first, h)) {
                strikeIn(first, h);
                int fitting = fitting(first, book);
                ways += fitting;
                bits |= fitting > 0 ? 1 << h : 0;
            }
        }
        asked = bits;
        tell(ways, 1);
        return 1;
    }

    private int fitting(Now struck, int[] book) {
        List<Now> states = List.of(struck);
        for (int set : book) {
            List<Now> next = new ArrayList<>();
            for (Now state : states) {
                for (Plan plan : allPlans(state, 1)) {
                    if (plan.end().bits() == set) {
                        next.add(plan.end());
                    }
                }
            }
            states = next;
        }
        return states.size();
    }

    private int hides(int r, int seen) {
        bad(outside(r, 0, 5) || outside(seen, 0, (1 << houses.size()) - 1));
        int[] book = bookThere(r);
        for (int h = 0; h < houses.size(); h++) {
            for (int set : book) {
                if ((set & 1 << h) != 0 && (seen & 1 << h) == 0) {
                    return h;
                }
            }
        }
        return -9;
    }

    private int spring(int h, int n) {
        bad(noHouse(h) || outside(n, 0, 20));
        int hour = now().hour;
        int wood = 0;
        for (int i = hour; i < hour + n; i++) {
            wood += takes(h, i);
        }
        return wood;
    }

    // ---- 6 chances, lots

    private int odds(int h, int r, int p) {
        bad(noHouse(h) || outside(r, 0, 5) || outside(p, 0, 12));
        int[] moves = movesThere(r, 4);
        // each of the 2 x 2 x .. fates of the moves, weighed
        long cases = 0;
        for (int fate = 0; fate < 1 << moves.length; fate++) {
            long weight = 1;
            Now now = now();
            for (int i = 0; i < moves.length; i++) {
                boolean lost = (fate >> i & 1) != 0;
                weight *= lost ? p : 12 - p;
                if (!lost && moves[i] < 36 && canCarry(now, moves[i] / 6, moves[i] % 6)) {
                    carryTo(now, moves[i] % 6);
                }
                pass(now);
            }
            cases += now.fire.contains(h) ? weight : 0;
        }
        tell(cases, BigInteger.valueOf(12).pow(moves.length).longValueExact());
        return 1;
    }

    private int lots(int n, int seed) {
        bad(outside(n, 1, 10) || outside(seed, 1, 2147483646));
        refuse(houses.isEmpty(), -4);
        refuse(deeds.size() + 2 * n > 40, -2);
        BigInteger lot = BigInteger.valueOf(seed);
        for (int i = 0; i < n; i++) {
            lot = lot.multiply(BigInteger.valueOf(48271)).mod(BigInteger.valueOf(2147483647));
            int from = lot.mod(BigInteger.valueOf(houses.size())).intValue();
            int to = lot.shiftRight(4).mod(BigInteger.valueOf(houses.size())).intValue();
            if (canCarry(now(), from, to)) {
                deeds.add("c" + from + to);
            }
            deeds.add("h");
        }
        return now().fire.size();
    }

    // ---- 7 what is told

    private int count(int what) {
        bad(outside(what, 0, 8));
        Now now = now();
        int peats = 0;
        for (House house : houses) {
            peats += "pt".indexOf(house.letter()) >= 0 ? 1 : 0;
        }
        int[] counts = {houses.size(), now.hour, now.struck ? 1 : 0, deeds.size(),
            java.util.Arrays.stream(now.wood).sum(), peats, rows.size(), texts.size(), kept.size()};
        return counts[what];
    }

    private int findings(int f) {
        bad(outside(f, 1, 5));
        return findings[f];
    }

    private long digest() {
        List<Integer> values = new ArrayList<>();
        for (int what = 0; what <= 8; what++) {
            values.add(count(what));
        }
        Now now = now();
        for (int h = 0; h < houses.size(); h++) {
            for (int what = 0; what <= 5; what++) {
                values.add(fact(now, h, what));
            }
        }
        for (int k = 0; k < 3; k++) {
            values.add(kept.containsKey(k) ? kept.get(k).deeds().size() : -1);
        }
        for (int r = 0; r < 6; r++) {
            int[] row = rows.get(r);
            values.add(row == null ? -1 : row.length);
            for (int i = 0; row != null && i < row.length; i++) {
                values.add(row[i]);
            }
        }
        for (int t = 0; t < 4; t++) {
            byte[] text = texts.get(t);
            values.add(text == null ? -1 : text.length);
            for (int i = 0; text != null && i < text.length; i++) {
                values.add((int) text[i]);
            }
        }
        long h = 17;
        for (int v : values) {
            h = 31 * h + v;
        }
        return h;
    }
}
