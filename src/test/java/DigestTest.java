/** Promise 36: digest, put together from the other calls. */
public final class DigestTest {
    private static final Check CHECK = new Check();
    private long h = 17;

    private void add(long value) {
        h = 31 * h + value;
    }

    static long digestOf(DeadLasts x) {
        DigestTest d = new DigestTest();
        for (int what = 0; what <= 7; what++) {
            d.add(x.count(what));
        }
        for (int text = 0; text < 3; text++) {
            d.add(x.fault(text));
        }
        for (int cell = 0; cell < x.count(0); cell++) {
            d.add(x.cell(cell));
        }
        for (int last = 0; last < x.count(1); last++) {
            for (int what = 0; what <= 5; what++) {
                d.add(x.last(last, what));
            }
            d.add(x.worn(last));
        }
        for (int p = 0; p < x.count(2); p++) {
            d.addPerson(x, p);
        }
        d.add(x.who(0));
        d.add(x.who(1));
        d.add(x.met(0));
        d.add(x.met(1));
        d.add(x.met(2));
        d.add(x.rifest());
        d.add(x.match());
        d.add(x.dry(DeadLasts.NONE));
        d.add(x.dry(0));
        d.add(x.never());
        d.add(x.shelves(7, 0));
        d.add(x.shelves(7, 1));
        return d.h;
    }

    private void addPerson(DeadLasts x, int p) {
        for (int what = 0; what <= 4; what++) {
            add(x.person(p, what));
        }
        for (int step : new int[] {0, 5, 12, 29}) {
            for (int what = 0; what <= 3; what++) {
                add(x.at(step, p, what));
            }
        }
        add(x.ends(p, 0));
        add(x.ends(p, 1));
        add(x.pair(p, 0));
        add(x.pair(p, 1));
        add(x.pair(p, 2));
        add(x.soles(p));
        add(x.wore(p, 0));
        add(x.wore(p, 1));
        add(x.ask(p));
        add(x.storm(5, 5, p, 0));
        add(x.storm(5, 5, p, 1));
    }

    public static void main(String[] args) {
        due("a new object", new DeadLasts());
        due("a town alone", Check.made("..;.c", "", ""));
        due("no town", Check.made("", "pe;dn", "00000n;01101w"));
        due("a fault", Check.made("..;.", "pe;dn;", "00000n;01101w"));
        DeadLasts x = Check.made("......;..#..c;....r.;......;......", "pes;dne;te;pw;pnnee",
                "00000e;00120n;20331w;28215s;08004n;16000n;11440e", 0, 3, 3, 29);
        x.seen(3, 1, x.at(3, 1, 0));
        due("a full town", x);
        x.get(0, 0, 0);
        due("a finding is not in it", x);
        due("one RAIN that had better not be", Check.made("r..", "pe", "01000w", 9, 0));
        due("two of them", Check.made("r..", "pe", "02000w", 4, 5, 14, 15));
        String[] peoples = {Check.times(8, "14000n"), Check.times(3, "14000n"), Check.times(5, "08120w")};
        for (String people : peoples) {
            for (String lasts : new String[] {"pn;pe;ps;pw", "pne;tw;ds", "pes;pnw;pe;pw;ds"}) {
                due("shelves", Check.made("..c..r;......;c....r;......;r.r.c.", lasts, people, 2));
            }
        }
        byHand();
        CHECK.finish();
    }

    private static void told(String name, DeadLasts x, int... values) {
        DigestTest d = new DigestTest();
        for (int value : values) {
            d.add(value);
        }
        CHECK.due(name, x.digest(), d.h);
    }

    /** Objects of which all that goes into it is told here, in its order. */
    private static void byHand() {
        CHECK.says("h is 17; h becomes 31 h and each of: count() 0 to 7; of texts fault(); of CELLS cell(); of LASTS"
                + " last() 0 to 5, worn(); of PEOPLE person() 0 to 4, of STEPS 0, 5, 12, 29 at(the STEP, it, 0 to 3),"
                + " then ends() 0, 1, pair() 0 to 2, soles(), wore() 0, 1, ask(), storm(5, 5, it), above, below;"
                + " who() 0, 1, met() 0 to 2, rifest(), match(), dry(NONE), dry(0), never(), shelves(7, 0 and 1);"
                + " as longs that wrap.");
        told("a new object", new DeadLasts(), 0, 0, 0, 0, 0, 0, 0, 0, -1, -1, -1,
                0, 0, -1, -1, -1, -1, 0, 0, -1, 0, 0, 0);
        told("faults alone", Check.made(".x", "pn;", "0"), 0, 0, 0, 2, 3, 1, 0, 0, 1, 3, 1,
                0, 0, -1, -1, -1, -1, 0, 0, -1, 0, 0, 0);
        told("one who comes", Check.made(".c", "pe", "00000n"), 2, 1, 1, 2, 2, 6, 0, 0, -1, -1, -1,
                0, 2,
                0, 1, 1, -1, -1, -1, 1,
                0, 0, 0, 0, 0, 1, 1, 0, 0, 1, 1, 0, -1, 1, 1, 0, -1, 1, 1, 0, -1,
                0, -1, 0, 0, 0, 0, 255, 255, 0, 1, 1,
                1, 0, -1, -1, -1, 0, 1, 0, -1, 0, 1, 0);
        DeadLasts x = Check.made("r..", "pe", "01000w", 9, 0);
        x.seen(0, 0, 2);
        told("one who is drowned", x, 3, 1, 1, 3, 2, 6, 2, 1, -1, -1, -1,
                3, 0, 0,
                0, 1, 1, -1, -1, -1, 0,
                1, 0, 0, 0, 3, 0, 2, 0, -1, 0, 2, 0, -1, 0, 2, 0, -1, 0, 2, 0, -1,
                -1, 0, -1, -1, -1, -1, 0, 0, 0, 0, 1,
                0, 1, -1, -1, -1, 0, 0, 1, 1, 2, 0, 1);
    }

    private static void due(String name, DeadLasts x) {
        long before = x.digest();
        CHECK.due(name, before, digestOf(x));
        CHECK.due(name + ", twice", x.digest(), before);
    }
}
