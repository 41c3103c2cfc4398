import java.util.Random;

/** All promises: random runs of calls, each answered as the plain telling of the document does. */
public final class PlainTest {
    private static final Check CHECK = new Check();
    private static final String[] SIGNS = {".#cr;", "pdtnesw;", "01234567nesw;"};

    private final Random random;
    private final DeadLasts x = new DeadLasts();
    private final Plain y = new Plain();
    private int run;

    private PlainTest(int run) {
        this.run = run;
        random = new Random(run);
    }

    public static void main(String[] args) {
        for (int run = 0; run < 250; run++) {
            new PlainTest(run).calls();
        }
        for (int run = 1000; run < 1400; run++) {
            new PlainTest(run).texts();
        }
        CHECK.finish();
    }

    private int below(int n) {
        return random.nextInt(n);
    }

    /** A number that mostly may be, and at times is one too low or too high. */
    private int near(int n) {
        return below(20) == 0 ? below(2) == 0 ? -1 : n : below(n);
    }

    private void due(String call, long got, long want) {
        CHECK.due("run " + run + ": " + call, got, want);
    }

    private void typed(int text, String signs) {
        for (int i = 0; i < signs.length(); i++) {
            due("type " + text, x.type(text, signs.charAt(i)), y.type(text, signs.charAt(i)));
        }
    }

    private String town() {
        int width = 1 + below(6);
        int rows = 1 + below(6);
        StringBuilder signs = new StringBuilder();
        String kinds = below(2) == 0 ? "......#cr" : "...............#cr";
        for (int row = 0; row < rows; row++) {
            for (int column = 0; column < width; column++) {
                signs.append(kinds.charAt(below(kinds.length())));
            }
            signs.append(row + 1 < rows ? ";" : "");
        }
        return signs.toString();
    }

    private String lasts() {
        StringBuilder signs = new StringBuilder();
        int many = 1 + below(8);
        for (int last = 0; last < many; last++) {
            signs.append("pdt".charAt(below(3)));
            for (int i = below(4); i >= 0; i--) {
                signs.append("nesw".charAt(below(4)));
            }
            signs.append(last + 1 < many ? ";" : "");
        }
        return signs.toString();
    }

    private String people() {
        StringBuilder signs = new StringBuilder();
        int many = 1 + below(8);
        int cells = Math.max(1, y.count(0));
        for (int p = 0; p < many; p++) {
            int cell = below(8) == 0 ? below(40) : below(cells);
            signs.append(cell / 10).append(cell % 10).append(below(8)).append(below(8));
            signs.append(below(3) == 0 ? below(6) : below(2)).append("nesw".charAt(below(4)));
            signs.append(p + 1 < many ? ";" : "");
        }
        return signs.toString();
    }

    /** Random bytes, most of them of those that are in such a text. */
    private void texts() {
        for (int i = 0; i < 120; i++) {
            int text = near(3);
            int act = below(12);
            if (act == 0) {
                due("undo", x.undo(text), y.undo(text));
            } else if (act == 1 && below(8) == 0) {
                due("wipe", x.wipe(text), y.wipe(text));
            } else {
                String signs = text >= 0 && text < 3 ? SIGNS[text] : "x";
                int b = below(40) == 0 ? near(256) : signs.charAt(below(signs.length()));
                due("type(" + text + ", " + b + ")", x.type(text, b), y.type(text, b));
            }
            due("fault(" + text + ")", x.fault(text), y.fault(text));
            due("count", x.count(text), y.count(text));
        }
    }

    private void calls() {
        typed(0, town());
        typed(1, lasts());
        typed(2, people());
        for (int i = below(7); i > 0; i--) {
            rain();
        }
        for (int i = 0; i < 160; i++) {
            change();
            ask();
            steps();
            sheets();
        }
        due("digest", x.digest(), DigestTest.digestOf(x));
    }

    private void rain() {
        int step = below(3) == 0 ? near(30) : near(8);
        due("rain(" + step + ")", x.rain(step), y.rain(step));
    }

    private void change() {
        switch (below(24)) {
            case 0:
                due("wipe(0)", x.wipe(0), y.wipe(0));
                typed(0, town());
                break;
            case 1:
                due("wipe(1)", x.wipe(1), y.wipe(1));
                typed(1, lasts());
                break;
            case 2:
                due("wipe(2)", x.wipe(2), y.wipe(2));
                typed(2, people());
                break;
            case 3:
                int text = near(3);
                due("undo(" + text + ")", x.undo(text), y.undo(text));
                break;
            case 4:
            case 5:
                rain();
                break;
            case 6:
                due("back()", x.back(), y.back());
                break;
            case 7:
                int s = near(4);
                due("read(" + s + ")", x.read(s), y.read(s));
                break;
            case 8:
                due("forget()", x.forget(), y.forget());
                break;
            case 9:
                see();
                break;
            default:
                break;
        }
    }

    /** Sees somebody, most often where they are. */
    private void see() {
        int step = near(30);
        int person = near(8);
        int is = below(4) == 0 ? -1 : y.at(step, person, 0);
        int cell = is < 0 ? near(36) : is;
        due("seen", x.seen(step, person, cell), y.seen(step, person, cell));
    }

    private void ask() {
        int person = near(Math.max(1, y.count(2)));
        int what = near(2);
        switch (below(8)) {
            case 0:
                int part = near(3);
                due("pair(" + person + ", " + part + ")", x.pair(person, part), y.pair(person, part));
                break;
            case 1:
                due("soles(" + person + ")", x.soles(person), y.soles(person));
                due("match()", x.match(), y.match());
                break;
            case 2:
                int i = near(3) - 1;
                due("dry(" + i + ")", x.dry(i), y.dry(i));
                break;
            case 3:
                due("never()", x.never(), y.never());
                break;
            case 4:
                due("wore(" + person + ", " + what + ")", x.wore(person, what), y.wore(person, what));
                break;
            case 5:
                due("ask(" + person + ")", x.ask(person), y.ask(person));
                break;
            case 6:
                int c = near(17);
                int last = below(30) == 0 ? near(10) : near(5);
                due("storm(" + c + ", " + last + ", " + person + ", " + what + ")",
                        x.storm(c, last, person, what), y.storm(c, last, person, what));
                break;
            default:
                int seed = random.nextInt();
                due("shelves(" + seed + ", " + what + ")", x.shelves(seed, what), y.shelves(seed, what));
                break;
        }
    }

    private void steps() {
        int person = near(Math.max(1, y.count(2)));
        int step = near(30);
        int last = near(Math.max(1, y.count(1)));
        for (int what = -1; what < 5; what++) {
            due("at(" + step + ", " + person + ", " + what + ")", x.at(step, person, what), y.at(step, person, what));
        }
        int what = near(3);
        due("ends(" + person + ", " + what + ")", x.ends(person, what), y.ends(person, what));
        due("who(" + what + ")", x.who(what), y.who(what));
        due("met(" + what + ")", x.met(what), y.met(what));
        due("worn(" + last + ")", x.worn(last), y.worn(last));
        if (below(8) == 0) {
            due("rifest()", x.rifest(), y.rifest());
        }
        int field = near(6);
        due("last", x.last(last, field), y.last(last, field));
        due("person", x.person(person, field), y.person(person, field));
        int cell = near(36);
        due("cell(" + cell + ")", x.cell(cell), y.cell(cell));
    }

    private void sheets() {
        int s = near(4);
        int form = near(3);
        int i = near(12);
        switch (below(7)) {
            case 0:
                int n = below(8) == 0 ? near(61) : near(12);
                due("sheet", x.sheet(s, form, n), y.sheet(s, form, n));
                break;
            case 1:
                if (below(4) == 0) {
                    due("lose", x.lose(s), y.lose(s));
                }
                break;
            case 2:
            case 3:
                int v = below(3) == 0 ? random.nextInt() : below(31);
                due("lay", x.lay(s, form, i, v), y.lay(s, form, i, v));
                break;
            case 4:
                int t = near(4);
                int j = near(6);
                int many = near(6);
                int from = near(6);
                due("copy", x.copy(s, from, t, j, many), y.copy(s, from, t, j, many));
                break;
            case 5:
                int person = near(Math.max(1, y.count(2)));
                due("write", x.write(person, s), y.write(person, s));
                break;
            default:
                due("get", x.get(s, form, i), y.get(s, form, i));
                break;
        }
        int what = near(9);
        due("count(" + what + ")", x.count(what), y.count(what));
    }
}
