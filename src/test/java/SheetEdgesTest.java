/** The edges of sheets and counts, sentence by sentence: Terms 1 and promises 29 to 35. */
public final class SheetEdgesTest {
    private static final Check CHECK = new Check();
    private static final int BAD = DeadLasts.BAD, NONE = DeadLasts.NONE;
    private static final int LEAST = Integer.MIN_VALUE, MOST = Integer.MAX_VALUE;
    private static final int NULL = -11, INDEX = -12, CAST = -13, STORE = -14, SIZE = -15;

    public static void main(String[] args) {
        numbersOfSheets();
        sizes();
        newRows();
        losing();
        lowestBits();
        itemNumbers();
        orderOfLay();
        orderOfGet();
        leastInt();
        copyRanges();
        copyAsTheyWere();
        orderOfCopy();
        writing();
        writingForms();
        orderOfWrite();
        counts();
        findings();
        CHECK.finish();
    }

    private static DeadLasts with(int form, int... items) {
        DeadLasts x = new DeadLasts();
        Check.laid(x, 0, form, items);
        return x;
    }

    private static void row(String name, DeadLasts x, int s, int form, int... want) {
        for (int i = 0; i < want.length; i++) {
            CHECK.due(name + ": get(" + s + ", " + form + ", " + i + ")", x.get(s, form, i), want[i]);
        }
    }

    private static void numbersOfSheets() {
        CHECK.says("SHEETS 0 .. 3 are LOST (at first) or a row of a FORM: 0 bytes, 1 shorts, 2 ints");
        CHECK.range("sheet(s, ..)", s -> new DeadLasts().sheet(s, 0, 1), 0, 3);
        CHECK.range("sheet(.., form, ..)", form -> new DeadLasts().sheet(0, form, 1), 0, 2);
        CHECK.range("lose", s -> new DeadLasts().lose(s), 0, 3);
        CHECK.range("lay(s, ..)", s -> new DeadLasts().lay(s, 0, 0, 0), 0, 3);
        CHECK.range("lay(.., form, ..)", form -> new DeadLasts().lay(0, form, 0, 0), 0, 2);
        CHECK.range("copy(s, ..)", s -> new DeadLasts().copy(s, 0, 0, 0, 0), 0, 3);
        CHECK.range("copy(.., t, ..)", t -> new DeadLasts().copy(0, 0, t, 0, 0), 0, 3);
        CHECK.range("write(.., s)", s -> Check.made(".", "pn", "00000n").write(0, s), 0, 3);
        CHECK.range("read", s -> new DeadLasts().read(s), 0, 3);
        DeadLasts x = new DeadLasts();
        for (int s = 0; s < 4; s++) {
            CHECK.due("LOST at first: " + s, x.lose(s), NULL);
            Check.laid(x, s, 2, s + 10);
        }
        for (int s = 0; s < 4; s++) {
            CHECK.due("each by itself: " + s, x.get(s, 2, 0), s + 10);
        }
    }

    private static void sizes() {
        CHECK.says("A SHEET is a new row of a FORM with n items: n. BAD: SHEET, FORM, above 60; SIZE.");
        for (int form = 0; form < 3; form++) {
            DeadLasts x = new DeadLasts();
            for (int n = 0; n <= 60; n++) {
                CHECK.due("sheet(1, " + form + ", " + n + ")", x.sheet(1, form, n), n);
                CHECK.due("its last item", x.get(1, form, n - 1), n == 0 ? LEAST : 0);
                CHECK.due("one beyond", x.get(1, form, n), LEAST);
            }
            CHECK.due("above 60", x.sheet(1, form, 61), BAD);
            CHECK.due("far above 60", x.sheet(1, form, MOST), BAD);
            CHECK.due("below 0", x.sheet(1, form, -1), SIZE);
            CHECK.due("far below 0", x.sheet(1, form, LEAST), SIZE);
            CHECK.due("it still has 60", x.lose(1), 60);
        }
        DeadLasts y = new DeadLasts();
        CHECK.due("BAD ahead of SIZE: the SHEET", y.sheet(4, 0, -1), BAD);
        CHECK.due("BAD ahead of SIZE: the SHEET below 0", y.sheet(-1, 0, -1), BAD);
        CHECK.due("BAD ahead of SIZE: the FORM", y.sheet(0, 3, -1), BAD);
        CHECK.due("BAD ahead of SIZE: the FORM below 0", y.sheet(0, -1, -1), BAD);
        CHECK.due("no FINDING yet", y.count(8), 0);
        CHECK.due("SIZE", y.sheet(0, 0, -1), SIZE);
        CHECK.due("its number", y.count(8), 5);
        CHECK.due("still LOST", y.lose(0), NULL);
    }

    private static void newRows() {
        CHECK.says("of 0 to 60 items (0 at first)");
        for (int form = 0; form < 3; form++) {
            DeadLasts x = new DeadLasts();
            x.sheet(0, form, 60);
            for (int i = 0; i < 60; i++) {
                CHECK.due("item " + i, x.get(0, form, i), 0);
                x.lay(0, form, i, 99);
            }
            x.sheet(0, form, 60);
            for (int i = 0; i < 60; i++) {
                CHECK.due("item " + i + " of a new row", x.get(0, form, i), 0);
                x.lay(0, form, i, 99);
            }
            x.lose(0);
            x.sheet(0, form, 60);
            for (int i = 0; i < 60; i++) {
                CHECK.due("item " + i + " of one that was LOST", x.get(0, form, i), 0);
                x.lay(0, form, i, 99);
            }
            x.sheet(0, form, 1);
            x.sheet(0, form, 60);
            CHECK.due("the last behind a short row", x.get(0, form, 59), 0);
        }
        CHECK.says("A SHEET is a new row of a FORM");
        DeadLasts y = with(2, 70000);
        y.sheet(0, 0, 1);
        CHECK.due("as of the old FORM", y.lay(0, 2, 0, 5), CAST);
        CHECK.due("as of the new one", y.lay(0, 0, 0, 5), 1);
    }

    private static void losing() {
        CHECK.says("It is LOST: how many items it had. BAD; NULL.");
        for (int n : new int[] {0, 1, 59, 60}) {
            DeadLasts x = new DeadLasts();
            x.sheet(2, 1, n);
            CHECK.due("lose of " + n, x.lose(2), n);
            CHECK.due("no FINDING", x.count(8), 0);
            CHECK.due("lose again", x.lose(2), NULL);
            CHECK.due("its number", x.count(8), 1);
            CHECK.due("BAD", x.lose(4), BAD);
        }
        DeadLasts y = with(2, 7);
        y.sheet(1, 2, 3);
        y.lose(1);
        CHECK.due("another one is as it was", y.get(0, 2, 0), 7);
    }

    private static void lowestBits() {
        CHECK.says("Item i, treated as of a FORM, becomes v (the lowest bits that it has): 1.");
        int[] values = {0, 1, -1, 127, 128, 129, 255, 256, 257, -127, -128, -129, 32767, 32768, 65535, 65536, -32768,
            -32769, LEAST, MOST};
        int[] bytes = {0, 1, -1, 127, -128, -127, -1, 0, 1, -127, -128, 127, -1, 0, -1, 0, 0, -1, 0, -1};
        int[] shorts = {0, 1, -1, 127, 128, 129, 255, 256, 257, -127, -128, -129, 32767, -32768, -1, 0, -32768,
            32767, 0, -1};
        DeadLasts x = new DeadLasts();
        for (int form = 0; form < 3; form++) {
            x.sheet(form, form, 3);
            int[] want = form == 0 ? bytes : form == 1 ? shorts : values;
            for (int i = 0; i < values.length; i++) {
                CHECK.due("lay of " + values[i], x.lay(form, form, 1, values[i]), 1);
                CHECK.due("get of " + values[i] + " in FORM " + form, x.get(form, form, 1), want[i]);
                CHECK.due("the one ahead", x.get(form, form, 0), 0);
                CHECK.due("the one behind", x.get(form, form, 2), 0);
            }
        }
        CHECK.due("no FINDING, though the least int is told", x.count(8), 0);
    }

    private static void itemNumbers() {
        CHECK.says("2 INDEX: there is no such item");
        for (int n : new int[] {0, 1, 2, 60}) {
            for (int form = 0; form < 3; form++) {
                int as = form;
                DeadLasts x = new DeadLasts();
                x.sheet(0, form, n);
                CHECK.range("lay of item of " + n, i -> x.lay(0, as, i, 5), 0, n - 1, INDEX);
                CHECK.range("get of item of " + n, i -> x.get(0, as, i), 0, n - 1, LEAST);
                CHECK.due("its number", x.count(8), 2);
            }
        }
    }

    private static void orderOfLay() {
        CHECK.says("BAD; NULL; CAST; INDEX.");
        DeadLasts x = with(0, 1, 2, 3);
        CHECK.due("BAD ahead of NULL: the FORM", x.lay(1, 3, 9, 0), BAD);
        CHECK.due("BAD ahead of CAST and INDEX", x.lay(0, 3, 9, 0), BAD);
        CHECK.due("BAD of both", x.lay(4, 3, 9, 0), BAD);
        CHECK.due("no FINDING", x.count(8), 0);
        CHECK.due("NULL ahead of INDEX", x.lay(1, 0, 9, 0), NULL);
        CHECK.due("CAST ahead of INDEX", x.lay(0, 1, 9, 0), CAST);
        CHECK.due("CAST ahead of INDEX below 0", x.lay(0, 2, -1, 0), CAST);
        CHECK.due("CAST of an item that there is", x.lay(0, 2, 0, 0), CAST);
        CHECK.due("INDEX", x.lay(0, 0, 3, 0), INDEX);
        row("nothing has changed", x, 0, 0, 1, 2, 3);
        for (int form = 0; form < 3; form++) {
            DeadLasts y = with(form, 7);
            for (int as = 0; as < 3; as++) {
                CHECK.due("FORM " + form + " as " + as, y.lay(0, as, 0, 7), as == form ? 1 : CAST);
            }
        }
    }

    private static void got(String name, DeadLasts x, int s, int form, int i, int number) {
        CHECK.due(name, x.get(s, form, i), LEAST);
        CHECK.due(name + ": count(8)", x.count(8), number);
    }

    private static void orderOfGet() {
        CHECK.says("BAD: the least int; so are NULL, CAST, INDEX (count() 8 tells)");
        DeadLasts x = with(1, 1, 2, 3);
        got("BAD: SHEET -1", x, -1, 1, 0, 0);
        got("BAD: SHEET 4", x, 4, 1, 0, 0);
        got("BAD: FORM -1", x, 0, -1, 0, 0);
        got("BAD: FORM 3", x, 0, 3, 0, 0);
        got("BAD ahead of NULL", x, 1, 3, 0, 0);
        got("NULL ahead of INDEX", x, 1, 1, 9, 1);
        got("BAD leaves the number", x, 0, 3, 9, 1);
        got("CAST ahead of INDEX", x, 0, 0, 9, 3);
        got("INDEX", x, 0, 1, 3, 2);
        got("CAST", x, 0, 2, 0, 3);
        got("INDEX below 0", x, 0, 1, -1, 2);
        got("NULL", x, 3, 0, 0, 1);
        row("nothing has changed", x, 0, 1, 1, 2, 3);
        CHECK.due("an item is no FINDING", x.count(8), 1);
        for (int form = 0; form < 3; form++) {
            DeadLasts y = with(form, 7);
            for (int as = 0; as < 3; as++) {
                CHECK.due("FORM " + form + " as " + as, y.get(0, as, 0), as == form ? 7 : LEAST);
            }
        }
    }

    private static void leastInt() {
        CHECK.says("BAD: the least int");
        DeadLasts x = with(2, LEAST);
        CHECK.due("an item may be it, too", x.get(0, 2, 0), LEAST);
        CHECK.due("then there is no FINDING", x.count(8), 0);
    }

    private static void copyRanges() {
        CHECK.says("INDEX: below 0, not so many");
        for (int i = -1; i <= 5; i++) {
            for (int j = -1; j <= 4; j++) {
                for (int n = -1; n <= 5; n++) {
                    DeadLasts x = with(2, 1, 2, 3, 4);
                    Check.laid(x, 1, 2, 7, 8, 9);
                    boolean fits = i >= 0 && j >= 0 && n >= 0 && i + n <= 4 && j + n <= 3;
                    String call = "copy(0, " + i + ", 1, " + j + ", " + n + ")";
                    CHECK.due(call, x.copy(0, i, 1, j, n), fits ? 1 : INDEX);
                    CHECK.due(call + ": count(8)", x.count(8), fits ? 0 : 2);
                    for (int k = 0; k < 3; k++) {
                        boolean came = fits && k >= j && k < j + n;
                        CHECK.due(call + ": item " + k, x.get(1, 2, k), came ? 1 + i + k - j : 7 + k);
                    }
                    row(call + ": as they were", x, 0, 2, 1, 2, 3, 4);
                }
            }
        }
        DeadLasts y = with(2, 1, 2, 3, 4);
        int[][] far = {{MOST, 0, 1}, {0, MOST, 1}, {0, 0, MOST}, {1, 0, MOST}, {0, 1, MOST}, {MOST, MOST, MOST},
            {LEAST, 0, 0}, {0, LEAST, 0}, {0, 0, LEAST}, {MOST, 0, 0}, {0, MOST, 0}, {2, 0, MOST - 1}};
        for (int[] f : far) {
            CHECK.due("copy " + f[0] + ", " + f[1] + ", " + f[2], y.copy(0, f[0], 0, f[1], f[2]), INDEX);
        }
        DeadLasts z = new DeadLasts();
        z.sheet(0, 0, 0);
        CHECK.due("none of none", z.copy(0, 0, 0, 0, 0), 1);
        CHECK.due("one of none", z.copy(0, 0, 0, 0, 1), INDEX);
        CHECK.due("none behind none", z.copy(0, 1, 0, 0, 0), INDEX);
        z.sheet(1, 0, 60);
        z.sheet(2, 0, 60);
        z.lay(1, 0, 59, 5);
        CHECK.due("all sixty", z.copy(1, 0, 2, 0, 60), 1);
        CHECK.due("the sixtieth", z.get(2, 0, 59), 5);
        CHECK.due("sixty-one", z.copy(1, 0, 2, 0, 61), INDEX);
    }

    private static void copyAsTheyWere() {
        CHECK.says("n items of SHEET s, from i on, come to SHEET t (perhaps s, as they were), from j on: 1.");
        for (int form = 0; form < 3; form++) {
            for (int i = 0; i <= 6; i++) {
                for (int j = 0; j <= 6; j++) {
                    int n = 6 - Math.max(i, j);
                    DeadLasts x = with(form, 10, 11, 12, 13, 14, 15);
                    CHECK.due("copy(0, " + i + ", 0, " + j + ", " + n + ")", x.copy(0, i, 0, j, n), 1);
                    for (int k = 0; k < 6; k++) {
                        boolean came = k >= j && k < j + n;
                        CHECK.due("from " + i + " to " + j + ": item " + k, x.get(0, form, k), came ? 10 + i + k - j : 10 + k);
                    }
                }
            }
        }
        for (int s = 0; s < 4; s++) {
            for (int t = 0; t < 4; t++) {
                DeadLasts x = new DeadLasts();
                Check.laid(x, s, 1, 5, 6);
                if (t != s) {
                    Check.laid(x, t, 1, 7, 8);
                }
                x.copy(s, 0, t, 1, 1);
                CHECK.due("from " + s + " to " + t, x.get(t, 1, 1), 5);
                CHECK.due("the first of " + t, x.get(t, 1, 0), t == s ? 5 : 7);
            }
        }
    }

    private static void orderOfCopy() {
        CHECK.says("BAD: the SHEETS; NULL: s, t; STORE; INDEX: below 0, not so many.");
        DeadLasts x = with(2, 1, 2);
        Check.laid(x, 1, 1, 3, 4);
        CHECK.due("BAD ahead of NULL: s", x.copy(4, 0, 3, 0, 0), BAD);
        CHECK.due("BAD ahead of NULL: t", x.copy(3, 0, 4, 0, 0), BAD);
        CHECK.due("BAD: s below 0", x.copy(-1, 0, 0, 0, 0), BAD);
        CHECK.due("BAD: t below 0", x.copy(0, 0, -1, 0, 0), BAD);
        CHECK.due("no FINDING", x.count(8), 0);
        CHECK.due("NULL: s", x.copy(3, -1, 0, -1, -1), NULL);
        CHECK.due("NULL: t", x.copy(0, -1, 3, -1, -1), NULL);
        CHECK.due("NULL: both", x.copy(3, 0, 2, 0, 0), NULL);
        CHECK.due("NULL: the same one", x.copy(3, 0, 3, 0, 0), NULL);
        CHECK.due("its number", x.count(8), 1);
        CHECK.due("STORE ahead of INDEX", x.copy(0, -1, 1, 9, 9), STORE);
        CHECK.due("its number then", x.count(8), 4);
        CHECK.due("STORE of none at all", x.copy(1, 0, 0, 0, 0), STORE);
        CHECK.due("INDEX", x.copy(0, 0, 0, 0, 3), INDEX);
        CHECK.says("4 STORE: unlike FORMS");
        for (int a = 0; a < 3; a++) {
            for (int b = 0; b < 3; b++) {
                DeadLasts y = with(a, 7);
                y.sheet(1, b, 1);
                CHECK.due("FORM " + a + " to FORM " + b, y.copy(0, 0, 1, 0, 1), a == b ? 1 : STORE);
                CHECK.due("what is there", y.get(1, b, 0), a == b ? 7 : 0);
            }
        }
    }

    private static void writing() {
        CHECK.says("comes to a SHEET from item 0 on, as many as there are items, 30 at most: how many.");
        for (int n : new int[] {0, 1, 2, 29, 30, 31, 60}) {
            DeadLasts x = Check.made("......", "pe;pw", "00010n;03000n");
            x.sheet(1, 2, n);
            for (int i = 0; i < n; i++) {
                x.lay(1, 2, i, 500 + i);
            }
            CHECK.due("write to " + n + " items", x.write(0, 1), Math.min(n, 30));
            for (int i = 0; i < n; i++) {
                CHECK.due("item " + i + " of " + n, x.get(1, 2, i), i < 30 ? 1 - i % 2 : 500 + i);
            }
        }
        CHECK.says("On which CELLS a PERSON is behind STEPS 0 on (NONE)");
        DeadLasts x = Check.made("..c", "pe", "00000n;02000n;03000n");
        x.sheet(0, 2, 3);
        int[][] want = {{1, 2, 2}, {2, 2, 2}, {NONE, NONE, NONE}};
        for (int p = 0; p < 3; p++) {
            CHECK.due("write(" + p + ", 0)", x.write(p, 0), 3);
            row("of " + p, x, 0, 2, want[p]);
        }
    }

    private static void writingForms() {
        CHECK.says("On which CELLS a PERSON is behind STEPS 0 on (NONE) comes to a SHEET");
        DeadLasts x = Check.made(Check.times(6, "......"), "pe", "35000n;36000n;00005w");
        int[] want = {35, NONE, 0};
        for (int form = 0; form < 3; form++) {
            x.sheet(form, form, 1);
            for (int p = 0; p < 3; p++) {
                CHECK.due("write(" + p + ", " + form + ")", x.write(p, form), 1);
                CHECK.due("in FORM " + form, x.get(form, form, 0), want[p]);
            }
        }
    }

    private static void orderOfWrite() {
        CHECK.says("as many as there are items, 30 at most: how many. BAD; NULL.");
        for (int many = 1; many <= 8; many++) {
            DeadLasts x = Check.made("..", "pe", Check.times(many, "00000n"));
            x.sheet(0, 0, 1);
            CHECK.range("write(person, 0)", person -> x.write(person, 0), 0, many - 1);
            CHECK.due("BAD ahead of NULL: the PERSON", x.write(many, 1), BAD);
            CHECK.due("BAD of both", x.write(many, 4), BAD);
            CHECK.due("no FINDING", x.count(8), 0);
            CHECK.due("NULL", x.write(0, 1), NULL);
            CHECK.due("its number", x.count(8), 1);
        }
        CHECK.due("BAD of nobody", new DeadLasts().write(0, 0), BAD);
    }

    private static void counts() {
        CHECK.says("0 CELLS, 1 LASTS, 2 PEOPLE, 3 to 5 bytes of texts, 6 RAINS, 7 SEEN,"
                + " 8 the number of the latest FINDING (0 before any). BAD.");
        CHECK.range("count", new DeadLasts()::count, 0, 8);
        DeadLasts full = Check.made(Check.times(6, "......"), Check.times(8, "pnesw"), Check.times(8, "00000n"),
                0, 0, 0, 0, 0, 0, 0, 0);
        for (int i = 0; i < 8; i++) {
            full.seen(0, 0, 0);
        }
        int[] most = {36, 8, 8, 41, 47, 55, 8, 8, 0};
        DeadLasts one = Check.made(".", "pn", "00000n", 0);
        one.seen(0, 0, 0);
        int[] least = {1, 1, 1, 1, 2, 6, 1, 1, 0};
        for (int what = 0; what <= 8; what++) {
            CHECK.due("as many as may be: count(" + what + ")", full.count(what), most[what]);
            CHECK.due("one of each: count(" + what + ")", one.count(what), least[what]);
        }
    }

    private static void findings() {
        CHECK.says("FINDINGS (answers -10 less the number; they change nothing but count() 8)");
        DeadLasts x = with(0, 1);
        x.sheet(1, 1, 1);
        CHECK.due("0 before any", x.count(8), 0);
        int[] answers = {x.lose(3), x.count(8), x.lay(0, 0, 1, 0), x.count(8), x.lay(0, 1, 0, 0), x.count(8),
            x.copy(0, 0, 1, 0, 0), x.count(8), x.sheet(0, 0, -1), x.count(8)};
        for (int number = 1; number <= 5; number++) {
            CHECK.due("the answer of " + number, answers[2 * number - 2], -10 - number);
            CHECK.due("the number of " + number, answers[2 * number - 1], number);
        }
        x.get(0, 0, 0);
        x.lose(9);
        x.back();
        x.type(9, 9);
        CHECK.due("the latest stays", x.count(8), 5);
        x.read(3);
        CHECK.due("until the next", x.count(8), 1);
    }
}
