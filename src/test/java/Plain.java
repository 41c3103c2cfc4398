import java.lang.reflect.Array;
import java.math.BigInteger;
import java.util.ArrayList;
import java.util.HashMap;
import java.util.List;
import java.util.Map;
import java.util.regex.Matcher;
import java.util.regex.Pattern;

/**
 * The document told over again in another manner, with lists, maps and patterns and no thought of
 * speed: nothing is kept between two calls but what was typed and read, rained, seen and laid.
 */
final class Plain {
    private static final int NONE = -1, BAD = -2, NOT = -3, FULL = -4;
    private static final int[] MOST = {41, 47, 55};

    /** What one is behind a STEP. */
    private record Stand(int cell, int state, int weight, int last) { }

    private record Last(char kind, String way) { }

    private record Person(int cell, int left, int right, int soled, char own) {
        Person in(int newLeft, int newRight) {
            return new Person(cell, newLeft, newRight, soled, own);
        }

        Person soledBy(int times) {
            return new Person(cell, left, right, times, own);
        }
    }

    private record Sight(int step, int person, int cell) { }

    private final StringBuilder[] texts = {new StringBuilder(), new StringBuilder(), new StringBuilder()};
    private final String[][] parts = {{}, {}, {}};
    private String cells = "";
    private List<Last> lasts = new ArrayList<>();
    private List<Person> people = new ArrayList<>();
    private final List<Integer> rains = new ArrayList<>();
    private final List<Sight> sights = new ArrayList<>();
    private final Object[] sheets = new Object[4];
    private int finding = 0;

    // ---- texts

    int type(int text, int b) {
        if (text < 0 || text > 2 || b < 0 || b > 255) {
            return BAD;
        }
        if (texts[text].length() == MOST[text]) {
            return FULL;
        }
        texts[text].append((char) b);
        reread(text);
        return texts[text].length();
    }

    int wipe(int text) {
        if (text < 0 || text > 2) {
            return BAD;
        }
        int had = texts[text].length();
        texts[text].setLength(0);
        reread(text);
        return had;
    }

    int undo(int text) {
        if (text < 0 || text > 2) {
            return BAD;
        }
        if (texts[text].isEmpty()) {
            return NOT;
        }
        texts[text].setLength(texts[text].length() - 1);
        reread(text);
        return texts[text].length();
    }

    int fault(int text) {
        if (text < 0 || text > 2) {
            return BAD;
        }
        String signs = texts[text].toString();
        if (signs.isEmpty()) {
            return NONE;
        }
        int furthest = 0;
        for (String one : items(text)) {
            int more = text == 0 ? 5 : 7;
            if (signs.matches(one + "(;" + one + "){0," + more + "}")) {
                return NONE;
            }
            // a ; behind the last item that may be is not yet the fault, but what follows it
            Pattern open = Pattern.compile(one + "(;" + one + "){0," + more + "};?");
            for (int n = 1; n <= signs.length(); n++) {
                Matcher m = open.matcher(signs.substring(0, n));
                if (m.matches() || m.hitEnd()) {
                    furthest = Math.max(furthest, n);
                } else {
                    break;
                }
            }
        }
        return furthest;
    }

    private static List<String> items(int text) {
        if (text == 1) {
            return List.of("[pdt][nesw]{1,4}");
        }
        if (text == 2) {
            return List.of("[0-3][0-9][0-7][0-7][0-5][nesw]");
        }
        List<String> rows = new ArrayList<>();
        for (int width = 1; width <= 6; width++) {
            rows.add("[.#cr]{" + width + "}");
        }
        return rows;
    }

    private void reread(int text) {
        String signs = fault(text) == NONE ? texts[text].toString() : "";
        parts[text] = signs.isEmpty() ? new String[0] : signs.split(";");
        cells = String.join("", parts[0]);
        lasts = new ArrayList<>();
        for (String part : parts[1]) {
            lasts.add(new Last(part.charAt(0), part.substring(1)));
        }
        people = new ArrayList<>();
        for (String part : parts[2]) {
            people.add(new Person(Integer.parseInt(part.substring(0, 2)), part.charAt(2) - '0',
                    part.charAt(3) - '0', part.charAt(4) - '0', part.charAt(5)));
        }
    }

    int cell(int cell) {
        if (cell < 0 || cell > 35) {
            return BAD;
        }
        return cell < cells.length() ? ".#cr".indexOf(cells.charAt(cell)) : NONE;
    }

    int last(int last, int what) {
        if (last < 0 || last >= lasts.size() || what < 0 || what > 5) {
            return BAD;
        }
        Last it = lasts.get(last);
        if (what == 0) {
            return "pdt".indexOf(it.kind);
        }
        if (what == 1) {
            return it.way.length();
        }
        return what - 2 < it.way.length() ? "nesw".indexOf(it.way.charAt(what - 2)) : NONE;
    }

    int person(int person, int what) {
        if (person < 0 || person >= people.size() || what < 0 || what > 4) {
            return BAD;
        }
        Person it = people.get(person);
        return new int[] {it.cell, it.left, it.right, it.soled, "nesw".indexOf(it.own)}[what];
    }

    // ---- rain

    int rain(int step) {
        if (step < 0 || step > 29) {
            return BAD;
        }
        if (rains.size() == 8) {
            return FULL;
        }
        rains.add(step);
        return rains.size();
    }

    int back() {
        if (rains.isEmpty()) {
            return NOT;
        }
        rains.remove(rains.size() - 1);
        return rains.size();
    }

    int read(int s) {
        if (s < 0 || s > 3) {
            return BAD;
        }
        if (sheets[s] == null) {
            return find(1);
        }
        int before = rains.size();
        for (int i = 0; i < Array.getLength(sheets[s]); i++) {
            if (rain(Array.getInt(sheets[s], i)) < 0) {
                break;
            }
        }
        return rains.size() - before;
    }

    // ---- steps

    private Stand standing(int cell, int weight, int last) {
        int kind = cell(cell);
        return new Stand(cell, kind == 2 ? 1 : kind == 3 ? 2 : 0, weight, last);
    }

    /** How one stands ahead of STEP 0, then behind each STEP. */
    private List<Stand> walk(Person it, List<Integer> wet) {
        List<Stand> stands = new ArrayList<>();
        boolean lost = it.cell >= cells.length() || cell(it.cell) == 1;
        stands.add(lost ? new Stand(NONE, 3, 0, NONE) : standing(it.cell, 0, NONE));
        Map<String, Integer> times = new HashMap<>();
        for (int step = 0; step < 30; step++) {
            Stand was = stands.get(step);
            if (was.state != 0) {
                stands.add(new Stand(was.cell, was.state, was.weight, NONE));
                continue;
            }
            int weight = wet.contains(step) ? 0 : was.weight + (int) Math.pow(2, it.soled);
            int needed = (int) Math.pow(3, it.soled);
            boolean heavy = weight >= needed;
            int last = step % 2 == 0 ? it.left : it.right;
            char way = it.own;
            if (heavy) {
                weight -= needed;
            }
            if (!heavy || last >= lasts.size()) {
                last = NONE;
            } else {
                int time = times.merge(step % 2 == 0 ? "left" : "right", 1, Integer::sum);
                way = wayOf(lasts.get(last), time);
            }
            stands.add(standing(moved(was.cell, way), weight, last));
        }
        return stands;
    }

    /** The way by a last the first, second, .. time. */
    private static char wayOf(Last last, int time) {
        String round = last.way;
        int gone = 0;
        while (time - gone * round.length() > round.length()) {
            gone++;
        }
        char letter = round.charAt(time - gone * round.length() - 1);
        if (last.kind == 'd' && time % 3 == 0) {
            return "swne".charAt("nesw".indexOf(letter));
        }
        for (int turn = 0; last.kind == 't' && turn < gone; turn++) {
            letter = "eswn".charAt("nesw".indexOf(letter));
        }
        return letter;
    }

    private int moved(int cell, char way) {
        String[] rows = parts[0];
        int width = rows[0].length();
        int row = cell / width + (way == 's' ? 1 : way == 'n' ? -1 : 0);
        int column = cell % width + (way == 'e' ? 1 : way == 'w' ? -1 : 0);
        if (row < 0 || row >= rows.length || column < 0 || column >= width || rows[row].charAt(column) == '#') {
            return cell;
        }
        return row * width + column;
    }

    private Stand behind(int step, int person) {
        return walk(people.get(person), rains).get(step + 1);
    }

    private int endOf(Person it, List<Integer> wet) {
        return walk(it, wet).get(30).state;
    }

    /** The STEP in which one comes to be in a state: -1 ahead of STEP 0, 30 never. */
    private int stepInto(Person it, int state) {
        List<Stand> stands = walk(it, rains);
        for (int i = 0; i <= 30; i++) {
            if (stands.get(i).state == state) {
                return i - 1;
            }
        }
        return 30;
    }

    int at(int step, int person, int what) {
        if (step < 0 || step > 29 || person < 0 || person >= people.size() || what < 0 || what > 3) {
            return BAD;
        }
        Stand stand = behind(step, person);
        return new int[] {stand.cell, stand.state, stand.weight, stand.last}[what];
    }

    int ends(int person, int what) {
        if (person < 0 || person >= people.size() || what < 0 || what > 1) {
            return BAD;
        }
        int step = stepInto(people.get(person), what + 1);
        return step == 30 ? NONE : step;
    }

    int who(int what) {
        if (what < 0 || what > 1) {
            return BAD;
        }
        int bits = 0;
        for (int p = 0; p < people.size(); p++) {
            bits += behind(29, p).state == what + 1 ? 1 << p : 0;
        }
        return bits;
    }

    int met(int what) {
        if (what < 0 || what > 2) {
            return BAD;
        }
        List<List<Stand>> all = new ArrayList<>();
        for (Person it : people) {
            all.add(walk(it, rains));
        }
        for (int step = 0; step < 30; step++) {
            for (int p = 0; p < all.size(); p++) {
                for (int q = p + 1; q < all.size(); q++) {
                    Stand a = all.get(p).get(step + 1);
                    Stand b = all.get(q).get(step + 1);
                    if (a.state == 0 && b.state == 0 && a.cell == b.cell) {
                        return new int[] {step, p, q}[what];
                    }
                }
            }
        }
        return NONE;
    }

    int worn(int last) {
        if (last < 0 || last >= lasts.size()) {
            return BAD;
        }
        int times = 0;
        for (Person it : people) {
            for (Stand stand : walk(it, rains)) {
                times += stand.last == last ? 1 : 0;
            }
        }
        return times;
    }

    int rifest() {
        int best = NONE;
        for (int last = lasts.size() - 1; last >= 0; last--) {
            if (best == NONE || worn(last) >= worn(best)) {
                best = last;
            }
        }
        return best;
    }

    // ---- plans

    int pair(int person, int what) {
        if (person < 0 || person >= people.size() || what < 0 || what > 2) {
            return BAD;
        }
        int[] best = {NONE, NONE, 30};
        for (int left = lasts.size() - 1; left >= 0; left--) {
            for (int right = lasts.size() - 1; right >= 0; right--) {
                int step = stepInto(people.get(person).in(left, right), 1);
                if (step < 30 && step <= best[2]) {
                    best = new int[] {left, right, step};
                }
            }
        }
        return best[what] == 30 ? NONE : best[what];
    }

    int soles(int person) {
        if (person < 0 || person >= people.size()) {
            return BAD;
        }
        for (int times = 0; times <= 5; times++) {
            if (endOf(people.get(person).soledBy(times), rains) != 2) {
                return times;
            }
        }
        return NONE;
    }

    int match() {
        boolean[][] may = new boolean[people.size()][lasts.size()];
        for (int p = 0; p < may.length; p++) {
            for (int last = 0; last < may[p].length; last++) {
                may[p][last] = endOf(people.get(p).in(last, last), rains) == 1;
            }
        }
        return most(may, 0, 0);
    }

    private static int most(boolean[][] may, int person, int taken) {
        if (person == may.length) {
            return 0;
        }
        int most = most(may, person + 1, taken);
        for (int last = 0; last < may[person].length; last++) {
            if (may[person][last] && (taken >> last & 1) == 0) {
                most = Math.max(most, 1 + most(may, person + 1, taken | 1 << last));
            }
        }
        return most;
    }

    private List<Integer> rainsBut(List<Integer> without) {
        List<Integer> left = new ArrayList<>();
        for (int i = 0; i < rains.size(); i++) {
            if (!without.contains(i)) {
                left.add(rains.get(i));
            }
        }
        return left;
    }

    int dry(int i) {
        if (i < -1 || i > 1) {
            return BAD;
        }
        List<List<Integer>> rows = new ArrayList<>();
        rows.add(List.of());
        for (int a = 0; a < rains.size(); a++) {
            rows.add(List.of(a));
        }
        for (int a = 0; a < rains.size(); a++) {
            for (int b = a + 1; b < rains.size(); b++) {
                rows.add(List.of(a, b));
            }
        }
        for (List<Integer> row : rows) {
            List<Integer> wet = rainsBut(row);
            if (people.stream().noneMatch(it -> endOf(it, wet) == 2)) {
                return i == -1 ? row.size() : i < row.size() ? row.get(i) : NONE;
            }
        }
        return NONE;
    }

    // ---- seen, storms, shelves

    int seen(int step, int person, int cell) {
        if (step < 0 || step > 29 || person < 0 || person > 7 || cell < 0 || cell > 35) {
            return BAD;
        }
        if (sights.size() == 8) {
            return FULL;
        }
        sights.add(new Sight(step, person, cell));
        return sights.size();
    }

    int forget() {
        int had = sights.size();
        sights.clear();
        return had;
    }

    private boolean comesOutSo(List<Person> all, List<Integer> wet) {
        for (Sight it : sights) {
            if (it.person >= all.size() || walk(all.get(it.person), wet).get(it.step + 1).cell != it.cell) {
                return false;
            }
        }
        return true;
    }

    int never() {
        int bits = 0;
        for (int i = 0; i < rains.size(); i++) {
            bits += comesOutSo(people, rainsBut(List.of(i))) ? 1 << i : 0;
        }
        return bits;
    }

    int wore(int person, int what) {
        if (person < 0 || person >= people.size() || what < 0 || what > 1) {
            return BAD;
        }
        int bits = 0;
        for (int last = 0; last < 8; last++) {
            List<Person> all = new ArrayList<>(people);
            Person it = all.get(person);
            all.set(person, what == 0 ? it.in(last, it.right) : it.in(it.left, last));
            bits += comesOutSo(all, rains) ? 1 << last : 0;
        }
        return bits;
    }

    int ask(int person) {
        if (person < 0 || person >= people.size()) {
            return BAD;
        }
        Person it = people.get(person);
        int bits = wore(person, 1);
        int best = 29;
        long least = 9;
        for (int step = 29; step >= 0; step--) {
            Map<Integer, Integer> crowds = new HashMap<>();
            for (int last = 0; last < 8; last++) {
                if ((bits >> last & 1) != 0) {
                    crowds.merge(walk(it.in(it.left, last), rains).get(step + 1).cell, 1, Integer::sum);
                }
            }
            int greatest = crowds.values().stream().mapToInt(n -> n).max().orElse(0);
            if (greatest <= least) {
                least = greatest;
                best = step;
            }
        }
        return best;
    }

    long storm(int c, int last, int person, int what) {
        if (c < 0 || c > 16 || last < 0 || last > 9 || person < 0 || person >= people.size()
                || what < 0 || what > 1) {
            return Long.MIN_VALUE + 2;
        }
        BigInteger above = BigInteger.ZERO;
        for (int row = 0; row < 1 << last + 1; row++) {
            List<Integer> wet = new ArrayList<>();
            BigInteger parts = BigInteger.ONE;
            for (int step = 0; step <= last; step++) {
                boolean rains = (row >> step & 1) != 0;
                if (rains) {
                    wet.add(step);
                }
                parts = parts.multiply(BigInteger.valueOf(rains ? c : 16 - c));
            }
            if (parts.signum() > 0 && endOf(people.get(person), wet) == 1) {
                above = above.add(parts);
            }
        }
        BigInteger below = BigInteger.valueOf(16).pow(last + 1);
        BigInteger common = above.gcd(below);
        return (what == 0 ? above : below).divide(common).longValueExact();
    }

    int shelves(int seed, int what) {
        if (what < 0 || what > 1) {
            return BAD;
        }
        BigInteger state = BigInteger.valueOf(seed);
        int many = 0;
        for (Person it : people) {
            int[] lots = {it.left, it.right};
            for (int foot = 0; foot < 2 && !lasts.isEmpty(); foot++) {
                state = state.multiply(BigInteger.valueOf(1103515245)).add(BigInteger.valueOf(12345))
                        .mod(BigInteger.TWO.pow(32));
                lots[foot] = state.shiftRight(16).intValueExact() % lasts.size();
            }
            many += endOf(it.in(lots[0], lots[1]), rains) == what + 1 ? 1 : 0;
        }
        return many;
    }

    // ---- sheets

    private int find(int number) {
        finding = number;
        return -10 - number;
    }

    private static int formOf(Object sheet) {
        return sheet instanceof byte[] ? 0 : sheet instanceof short[] ? 1 : 2;
    }

    int sheet(int s, int form, int n) {
        if (s < 0 || s > 3 || form < 0 || form > 2 || n > 60) {
            return BAD;
        }
        if (n < 0) {
            return find(5);
        }
        sheets[s] = form == 0 ? new byte[n] : form == 1 ? new short[n] : new int[n];
        return n;
    }

    int lose(int s) {
        if (s < 0 || s > 3) {
            return BAD;
        }
        if (sheets[s] == null) {
            return find(1);
        }
        int had = Array.getLength(sheets[s]);
        sheets[s] = null;
        return had;
    }

    private int findingAt(int s, int form, int i) {
        if (sheets[s] == null) {
            return 1;
        }
        if (formOf(sheets[s]) != form) {
            return 3;
        }
        return i < 0 || i >= Array.getLength(sheets[s]) ? 2 : 0;
    }

    int lay(int s, int form, int i, int v) {
        if (s < 0 || s > 3 || form < 0 || form > 2) {
            return BAD;
        }
        if (findingAt(s, form, i) != 0) {
            return find(findingAt(s, form, i));
        }
        put(sheets[s], i, v);
        return 1;
    }

    private static void put(Object sheet, int i, int v) {
        if (sheet instanceof byte[] bytes) {
            bytes[i] = (byte) v;
        } else if (sheet instanceof short[] shorts) {
            shorts[i] = (short) v;
        } else if (sheet instanceof int[] ints) {
            ints[i] = v;
        }
    }

    int get(int s, int form, int i) {
        if (s < 0 || s > 3 || form < 0 || form > 2) {
            return Integer.MIN_VALUE;
        }
        if (findingAt(s, form, i) != 0) {
            find(findingAt(s, form, i));
            return Integer.MIN_VALUE;
        }
        return Array.getInt(sheets[s], i);
    }

    int copy(int s, int i, int t, int j, int n) {
        if (s < 0 || s > 3 || t < 0 || t > 3) {
            return BAD;
        }
        if (sheets[s] == null || sheets[t] == null) {
            return find(1);
        }
        if (formOf(sheets[s]) != formOf(sheets[t])) {
            return find(4);
        }
        long froms = Array.getLength(sheets[s]);
        long tos = Array.getLength(sheets[t]);
        if (i < 0 || j < 0 || n < 0 || (long) i + n > froms || (long) j + n > tos) {
            return find(2);
        }
        List<Integer> items = new ArrayList<>();
        for (int k = 0; k < n; k++) {
            items.add(Array.getInt(sheets[s], i + k));
        }
        for (int k = 0; k < n; k++) {
            put(sheets[t], j + k, items.get(k));
        }
        return 1;
    }

    int write(int person, int s) {
        if (person < 0 || person >= people.size() || s < 0 || s > 3) {
            return BAD;
        }
        if (sheets[s] == null) {
            return find(1);
        }
        int many = Math.min(30, Array.getLength(sheets[s]));
        for (int step = 0; step < many; step++) {
            put(sheets[s], step, behind(step, person).cell);
        }
        return many;
    }

    int count(int what) {
        if (what < 0 || what > 8) {
            return BAD;
        }
        return new int[] {cells.length(), lasts.size(), people.size(), texts[0].length(),
            texts[1].length(), texts[2].length(), rains.size(), sights.size(), finding}[what];
    }
}
