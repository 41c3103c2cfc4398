/** The edges of the texts, sentence by sentence: Terms 1 and promises 1 to 8. */
public final class TextEdgesTest {
    private static final Check CHECK = new Check();
    private static final int NONE = DeadLasts.NONE, BAD = DeadLasts.BAD;
    private static final int[] MOST = {41, 47, 55};
    /** The longest text of each kind that is well. */
    private static final String[] LONGEST = {Check.times(6, "......"), Check.times(8, "pnesw"),
        Check.times(8, "00000n")};

    public static void main(String[] args) {
        aNewObject();
        lengths();
        bytesAndTexts();
        wipes();
        undos();
        rows();
        cellsOfRows();
        signsOfCells();
        numbersOfCells();
        lasts();
        ways();
        people();
        signsOfPeople();
        cellsOfPeople();
        emptyOnesAreWell();
        notEnded();
        shortRows();
        tooMany();
        theFirstByte();
        asIfEmpty();
        toldLasts();
        toldPeople();
        CHECK.finish();
    }

    private static void fault(int text, String signs, int want) {
        DeadLasts x = Check.typed(new DeadLasts(), text, signs);
        CHECK.due("fault(" + text + ") of \"" + signs + "\"", x.fault(text), want);
    }

    /** How many CELLS, LASTS or PEOPLE a text that is well has. */
    private static void well(int text, String signs, int many) {
        fault(text, signs, NONE);
        CHECK.due("how many of \"" + signs + "\"", Check.typed(new DeadLasts(), text, signs).count(text), many);
    }

    private static void aNewObject() {
        CHECK.says("No CELLS, no LASTS, no PEOPLE, no RAIN; all SHEETS are LOST.");
        DeadLasts x = new DeadLasts();
        for (int what = 0; what <= 8; what++) {
            CHECK.due("count(" + what + ")", x.count(what), 0);
        }
        CHECK.due("cell(0)", x.cell(0), NONE);
        CHECK.due("last(0, 0)", x.last(0, 0), BAD);
        CHECK.due("person(0, 0)", x.person(0, 0), BAD);
        CHECK.due("back()", x.back(), DeadLasts.NOT);
        CHECK.due("forget()", x.forget(), 0);
        for (int s = 0; s < 4; s++) {
            CHECK.due("lose(" + s + ")", x.lose(s), -11);
        }
    }

    private static void lengths() {
        String[] sentences = {"THE TOWN is a text of up to 41 bytes (text 0)",
            "LASTS are a text of up to 47 bytes (text 1)", "PEOPLE are a text of up to 55 bytes (text 2)"};
        for (int text = 0; text < 3; text++) {
            CHECK.says(sentences[text]);
            DeadLasts x = Check.typed(new DeadLasts(), text, LONGEST[text].substring(0, MOST[text] - 1));
            CHECK.due("one short of them", x.count(3 + text), MOST[text] - 1);
            CHECK.due("the last that may be", x.type(text, LONGEST[text].charAt(MOST[text] - 1)), MOST[text]);
            CHECK.due("its fault", x.fault(text), NONE);
            CHECK.due("one too many", x.type(text, '.'), DeadLasts.FULL);
            CHECK.due("it has not come", x.count(3 + text), MOST[text]);
            CHECK.due("the fault is as it was", x.fault(text), NONE);
            CHECK.due("undone", x.undo(text), MOST[text] - 1);
            CHECK.due("one may come again", x.type(text, 0), MOST[text]);
            for (int other = 0; other < 3; other++) {
                CHECK.due("bytes of " + other, x.count(3 + other), other == text ? MOST[text] : 0);
            }
        }
    }

    private static void bytesAndTexts() {
        CHECK.says("A byte (0 to 255) comes behind a text: how many. BAD; FULL.");
        for (int text = 0; text < 3; text++) {
            int to = text;
            CHECK.range("type of a byte", b -> new DeadLasts().type(to, b), 0, 255);
            DeadLasts full = Check.typed(new DeadLasts(), text, LONGEST[text]);
            CHECK.due("BAD ahead of FULL: 256", full.type(text, 256), BAD);
            CHECK.due("BAD ahead of FULL: -1", full.type(text, -1), BAD);
            CHECK.due("FULL", full.type(text, 255), DeadLasts.FULL);
            CHECK.due("FULL of 0", full.type(text, 0), DeadLasts.FULL);
        }
        CHECK.range("type to a text", text -> new DeadLasts().type(text, 0), 0, 2);
        CHECK.due("the first is one", new DeadLasts().type(0, 0), 1);
        // 302 is '.' in its lowest eight bits
        CHECK.due("no wrap-around", new DeadLasts().type(0, 256 + '.'), BAD);
    }

    private static void wipes() {
        CHECK.says("A text is empty: how many bytes it had. BAD.");
        CHECK.range("wipe", text -> new DeadLasts().wipe(text), 0, 2);
        for (int text = 0; text < 3; text++) {
            CHECK.due("wipe of none", new DeadLasts().wipe(text), 0);
            DeadLasts x = Check.typed(new DeadLasts(), text, "x");
            CHECK.due("wipe of one", x.wipe(text), 1);
            CHECK.due("its fault", x.fault(text), NONE);
            DeadLasts y = Check.made(LONGEST[0], LONGEST[1], LONGEST[2]);
            CHECK.due("wipe of a full one", y.wipe(text), MOST[text]);
            CHECK.due("things of it", y.count(text), 0);
            CHECK.due("bytes of it", y.count(3 + text), 0);
            for (int other = 0; other < 3; other++) {
                CHECK.due("bytes of " + other, y.count(3 + other), other == text ? 0 : MOST[other]);
            }
            CHECK.due("then the first comes", y.type(text, 'x'), 1);
        }
    }

    private static void undos() {
        CHECK.says("The last byte of a text is undone: how many are left. BAD; NOT: it is empty.");
        CHECK.range("undo", text -> Check.made(".", "p", "0").undo(text), 0, 2);
        for (int text = 0; text < 3; text++) {
            CHECK.due("undo of none", new DeadLasts().undo(text), DeadLasts.NOT);
            CHECK.due("undo of one", Check.typed(new DeadLasts(), text, "x").undo(text), 0);
            DeadLasts x = Check.typed(new DeadLasts(), text, LONGEST[text]);
            for (int left = MOST[text] - 1; left >= 0; left--) {
                CHECK.due("undo", x.undo(text), left);
            }
            CHECK.due("undo of none then", x.undo(text), DeadLasts.NOT);
            CHECK.due("none are left", x.count(3 + text), 0);
            CHECK.due("an empty one is well", x.fault(text), NONE);
        }
        DeadLasts y = Check.typed(new DeadLasts(), 0, ".#c");
        y.undo(0);
        CHECK.due("the last, not the first: cell(1)", y.cell(1), 1);
        CHECK.due("cell(2)", y.cell(2), NONE);
    }

    private static void rows() {
        CHECK.says("ROWS, 6 at most, with ; between them");
        for (int width = 1; width <= 6; width++) {
            String row = ".".repeat(width);
            for (int many = 1; many <= 6; many++) {
                well(0, Check.times(many, row), many * width);
            }
        }
        CHECK.says("of the first byte of a seventh ROW");
        for (int width = 1; width <= 5; width++) {
            String six = Check.times(6, ".".repeat(width));
            fault(0, six + ";", six.length() + 1);
            fault(0, six + ";.", six.length() + 1);
            fault(0, six + ";;", six.length() + 1);
            fault(0, six + ";x", six.length() + 1);
            CHECK.due("no cells", Check.typed(new DeadLasts(), 0, six + ";.").count(0), 0);
        }
    }

    private static void cellsOfRows() {
        CHECK.says("each of as many CELLS (1 to 6) as the first one");
        fault(0, ";", 0);
        for (int width = 1; width <= 6; width++) {
            String row = ".".repeat(width);
            well(0, row, width);
            well(0, row + ";" + row, 2 * width);
            well(0, row + ";" + row + ";" + row, 3 * width);
            CHECK.says("here also of a CELL too many");
            fault(0, row + ";" + row + ".", 2 * width + 1);
            fault(0, row + ";" + row + "#", 2 * width + 1);
            fault(0, row + ";" + row + ";" + row + "c", 3 * width + 2);
            CHECK.says("each of as many CELLS (1 to 6) as the first one");
        }
        fault(0, ".......", 6);
        fault(0, "......;.......", 13);
    }

    private static void signsOfCells() {
        CHECK.says(". (open), # (a wall), c (the church) or r (the river)");
        for (int b = 0; b <= 255; b++) {
            boolean isCell = ".#cr".indexOf((char) b) >= 0;
            fault(0, "" + (char) b, isCell ? NONE : 0);
            fault(0, "." + (char) b, isCell ? NONE : b == ';' ? 2 : 1);
            fault(0, ".;" + (char) b, isCell ? NONE : 2);
        }
        CHECK.says("What a CELL (0 to 35) is: 0 open, 1 a wall, 2 the church, 3 the river");
        DeadLasts x = Check.typed(new DeadLasts(), 0, ".#cr");
        for (int cell = 0; cell < 4; cell++) {
            CHECK.due("cell(" + cell + ")", x.cell(cell), cell);
        }
    }

    private static void numbersOfCells() {
        CHECK.says("CELLS are numbered from 0 on, as they come (0 to 35).");
        StringBuilder signs = new StringBuilder();
        for (int cell = 0; cell < 36; cell++) {
            signs.append(cell > 0 && cell % 6 == 0 ? ";" : "").append(".#cr".charAt(cell * cell % 7 % 4));
        }
        DeadLasts x = Check.typed(new DeadLasts(), 0, signs.toString());
        for (int cell = 0; cell < 36; cell++) {
            CHECK.due("cell(" + cell + ")", x.cell(cell), cell * cell % 7 % 4);
        }
        CHECK.range("cell", x::cell, 0, 35);
        CHECK.says("NONE: there is no such CELL. BAD.");
        CHECK.range("cell of none", new DeadLasts()::cell, 0, 35);
        for (int many = 1; many <= 6; many++) {
            DeadLasts y = Check.typed(new DeadLasts(), 0, Check.times(many, "#####"));
            CHECK.due("the last one", y.cell(5 * many - 1), 1);
            CHECK.due("one beyond", y.cell(5 * many), NONE);
            CHECK.due("the highest number", y.cell(35), NONE);
            CHECK.due("beyond all numbers", y.cell(36), BAD);
        }
    }

    private static void lasts() {
        CHECK.says("8 at most (0 on), with ; between them: p (plain), d (a dancer's) or t (a stranger's)");
        for (int many = 1; many <= 8; many++) {
            well(1, Check.times(many, "pn"), many);
            well(1, Check.times(many, "dnesw"), many);
        }
        for (int b = 0; b <= 255; b++) {
            boolean isKind = "pdt".indexOf((char) b) >= 0;
            fault(1, (char) b + "n", isKind ? NONE : 0);
            fault(1, "pn;" + (char) b + "n", isKind ? NONE : 3);
        }
        CHECK.says("of the first byte of a seventh ROW, of a ninth.");
        for (String one : new String[] {"pn", "dne", "tnes"}) {
            String eight = Check.times(8, one);
            fault(1, eight + ";", eight.length() + 1);
            fault(1, eight + ";p", eight.length() + 1);
            fault(1, eight + ";x", eight.length() + 1);
            fault(1, eight + ";;", eight.length() + 1);
            CHECK.due("no lasts", Check.typed(new DeadLasts(), 1, eight + ";p").count(1), 0);
        }
    }

    private static void ways() {
        CHECK.says("1 to 4 letters n, e, s, w, its WAY");
        fault(1, "p;", 1);
        for (int letters = 1; letters <= 4; letters++) {
            String one = "t" + "nesw".substring(0, letters);
            well(1, one, 1);
            well(1, one + ";" + one, 2);
            for (int b = 0; b <= 255; b++) {
                boolean isLetter = "nesw".indexOf((char) b) >= 0;
                int other = b == ';' ? letters + 2 : letters + 1;
                fault(1, one + (char) b, isLetter && letters < 4 ? NONE : other);
            }
        }
        for (int b = 0; b <= 255; b++) {
            fault(1, "p" + (char) b, "nesw".indexOf((char) b) >= 0 ? NONE : 1);
        }
        CHECK.says("of a fifth letter of a WAY");
        for (char letter : "nesw".toCharArray()) {
            fault(1, "pnesw" + letter, 5);
            fault(1, "pnesw;dwsen" + letter, 11);
        }
    }

    private static void people() {
        CHECK.says("8 at most (0 on), with ; between them: a figure 0 to 3 and a figure");
        for (int many = 1; many <= 8; many++) {
            well(2, Check.times(many, "39775w"), many);
        }
        DeadLasts x = Check.typed(new DeadLasts(), 2, LONGEST[2]);
        CHECK.due("no ; and so no ninth", x.type(2, ';'), DeadLasts.FULL);
        CHECK.due("eight", x.count(2), 8);
    }

    private static void signsOfPeople() {
        String[] sentences = {"a figure 0 to 3 and a figure, the CELL (00 to 39)",
            "a figure 0 to 3 and a figure, the CELL (00 to 39)", "a figure 0 to 7, the LEFT last",
            "a figure 0 to 7, the RIGHT one", "a figure 0 to 5, how often these are SOLED",
            "and n, e, s or w, its OWN way"};
        String[] signs = {"0123", "0123456789", "01234567", "01234567", "012345", "nesw"};
        String one = "39775w";
        for (int place = 0; place < 6; place++) {
            CHECK.says(sentences[place]);
            for (int b = 0; b <= 255; b++) {
                int want = signs[place].indexOf((char) b) >= 0 ? NONE : place;
                String changed = one.substring(0, place) + (char) b + one.substring(place + 1);
                fault(2, changed, want);
                fault(2, one + ";" + changed, want == NONE ? NONE : want + 7);
            }
        }
        CHECK.says("with ; between them");
        for (int b = 0; b <= 255; b++) {
            fault(2, one + (char) b + one, b == ';' ? NONE : 6);
        }
    }

    private static void cellsOfPeople() {
        CHECK.says("a figure 0 to 3 and a figure, the CELL (00 to 39)");
        for (int cell = 0; cell <= 39; cell++) {
            String one = "" + cell / 10 + cell % 10 + "000n";
            CHECK.due("person(0, 0) of " + one, Check.typed(new DeadLasts(), 2, one).person(0, 0), cell);
        }
        fault(2, "40000n", 0);
    }

    private static void emptyOnesAreWell() {
        CHECK.says("an empty one is well");
        for (int text = 0; text < 3; text++) {
            fault(text, "", NONE);
            fault(text, "x", 0);
            DeadLasts x = Check.typed(new DeadLasts(), text, "x");
            x.undo(text);
            CHECK.due("behind undo(" + text + ")", x.fault(text), NONE);
            x.type(text, 'x');
            x.wipe(text);
            CHECK.due("behind wipe(" + text + ")", x.fault(text), NONE);
        }
        CHECK.says("The FAULT of a text; NONE. BAD.");
        CHECK.range("fault", new DeadLasts()::fault, 0, 2);
    }

    private static void notEnded() {
        CHECK.says("of one that is not ended, or of a ROW that is too short, its end, or its ;");
        fault(0, ".;", 2);
        fault(0, "......;", 7);
        fault(1, "p", 1);
        fault(1, "pn;", 3);
        fault(1, "pnesw;", 6);
        fault(1, "pnesw;d", 7);
        String two = "12345n;30120w";
        for (int n = 1; n <= two.length(); n++) {
            fault(2, two.substring(0, n), n == 6 || n == 13 ? NONE : n);
        }
        fault(2, Check.times(8, "00000n").substring(0, 54), 54);
        fault(2, Check.times(8, "00000n").substring(0, 49), 49);
    }

    private static void shortRows() {
        CHECK.says("of a ROW that is too short, its end, or its ;");
        for (int width = 1; width <= 6; width++) {
            String first = ".".repeat(width);
            for (int cells = 0; cells < width; cells++) {
                String both = first + ";" + ".".repeat(cells);
                fault(0, both, both.length());
                fault(0, both + ";", both.length());
                fault(0, both + ";" + first, both.length());
                fault(0, first + ";" + both, first.length() + 1 + both.length());
                fault(0, first + ";" + both + ";", first.length() + 1 + both.length());
            }
        }
    }

    private static void tooMany() {
        CHECK.says("here also of a CELL too many, of a fifth letter of a WAY, of the first byte of a seventh ROW");
        fault(0, "......", NONE);
        fault(0, ".......", 6);
        fault(0, "......;......#", 13);
        fault(1, "pnesw", NONE);
        fault(1, "pneswn", 5);
        fault(0, Check.times(6, "."), NONE);
        fault(0, Check.times(7, "."), 12);
    }

    private static void theFirstByte() {
        CHECK.says("The FAULT of a text is the place of the first byte with which it cannot go on");
        fault(0, "x.x", 0);
        fault(0, ".x;x", 1);
        fault(0, ".;..;...", 3);
        fault(1, "px;x", 1);
        fault(1, "pn;nx;", 3);
        fault(2, "00000n;4x", 7);
        for (int text = 0; text < 3; text++) {
            DeadLasts x = new DeadLasts();
            for (int i = 0; i < MOST[text]; i++) {
                x.type(text, 255);
                CHECK.due("it stays the first", x.fault(text), 0);
            }
        }
        DeadLasts y = Check.typed(new DeadLasts(), 0, "..;.");
        CHECK.due("not ended", y.fault(0), 4);
        y.type(0, '.');
        CHECK.due("ended", y.fault(0), NONE);
        y.type(0, '.');
        CHECK.due("one too many", y.fault(0), 5);
        y.type(0, ';');
        CHECK.due("still there", y.fault(0), 5);
    }

    private static void asIfEmpty() {
        CHECK.says("With a FAULT a text is as if it was empty.");
        for (int text = 0; text < 3; text++) {
            DeadLasts x = Check.made("..;.c", "pe;ps", "00010n;01000e");
            int bytes = x.count(3 + text);
            long well = x.digest();
            x.type(text, 'x');
            CHECK.due("things of " + text, x.count(text), 0);
            CHECK.due("bytes of " + text, x.count(3 + text), bytes + 1);
            CHECK.due("the town of others", x.count(0), text == 0 ? 0 : 4);
            CHECK.due("the lasts of others", x.count(1), text == 1 ? 0 : 2);
            CHECK.due("the people of others", x.count(2), text == 2 ? 0 : 2);
            CHECK.due("cell(0)", x.cell(0), text == 0 ? NONE : 0);
            CHECK.due("last(0, 0)", x.last(0, 0), text == 1 ? BAD : 0);
            CHECK.due("person(0, 0)", x.person(0, 0), text == 2 ? BAD : 0);
            x.undo(text);
            CHECK.due("mended", x.digest(), well);
        }
        DeadLasts y = Check.made("..;.c;", "pe;ps", "00010n");
        CHECK.due("without a town one is lost", y.at(0, 0, 1), 3);
        DeadLasts z = Check.made("..;.c", "pe;ps;", "00010n");
        CHECK.due("without lasts it goes its own way", z.at(0, 0, 0), 0);
        CHECK.due("rifest of none", z.rifest(), NONE);
        DeadLasts w = Check.made("..;.c", "pe;ps", "00010n;");
        CHECK.due("nobody comes", w.who(0), 0);
        CHECK.due("there is no such one", w.at(0, 0, 0), BAD);
    }

    private static void toldLasts() {
        CHECK.says("these (2 to 5: 0 n, 1 e, 2 s, 3 w; NONE: not so many) of a last. BAD.");
        for (int letters = 1; letters <= 4; letters++) {
            DeadLasts x = Check.typed(new DeadLasts(), 1, "pw;d" + "wsen".substring(0, letters) + ";te");
            CHECK.due("how many letters", x.last(1, 1), letters);
            for (int i = 0; i < 4; i++) {
                CHECK.due("letter " + i + " of " + letters, x.last(1, 2 + i), i < letters ? 3 - i : NONE);
            }
            CHECK.range("last(1, what)", what -> x.last(1, what), 0, 5);
        }
        CHECK.says("Its kind (what = 0: 0 p, 1 d, 2 t), how many letters (1)");
        DeadLasts y = Check.typed(new DeadLasts(), 1, "pn;dn;tn");
        for (int kind = 0; kind < 3; kind++) {
            CHECK.due("kind " + kind, y.last(kind, 0), kind);
        }
        CHECK.says("BAD -2 (a number not as told, no such thing)");
        for (int many = 1; many <= 8; many++) {
            DeadLasts z = Check.typed(new DeadLasts(), 1, Check.times(many, "pn"));
            for (int what = 0; what < 6; what++) {
                int asked = what;
                CHECK.range("last(.., " + what + ") of " + many, last -> z.last(last, asked), 0, many - 1);
            }
        }
        CHECK.due("last(0, 0) of none", new DeadLasts().last(0, 0), BAD);
        CHECK.due("last(0, 5) of none", new DeadLasts().last(0, 5), BAD);
    }

    private static void toldPeople() {
        CHECK.says("The CELL as told (what = 0), LEFT (1), RIGHT (2), how often SOLED (3), its OWN way (4)");
        DeadLasts x = Check.typed(new DeadLasts(), 2, "00000n;39775w;10210e;29065s");
        int[][] want = {{0, 0, 0, 0, 0}, {39, 7, 7, 5, 3}, {10, 2, 1, 0, 1}, {29, 0, 6, 5, 2}};
        for (int p = 0; p < 4; p++) {
            int person = p;
            for (int what = 0; what < 5; what++) {
                CHECK.due("person(" + p + ", " + what + ")", x.person(p, what), want[p][what]);
            }
            CHECK.range("person(" + p + ", what)", what -> x.person(person, what), 0, 4);
        }
        CHECK.says("BAD -2 (a number not as told, no such thing)");
        for (int many = 1; many <= 8; many++) {
            DeadLasts y = Check.typed(new DeadLasts(), 2, Check.times(many, "39775w"));
            CHECK.range("person(.., 4) of " + many, person -> y.person(person, 4), 0, many - 1);
        }
        CHECK.due("person(0, 0) of none", new DeadLasts().person(0, 0), BAD);
    }
}
