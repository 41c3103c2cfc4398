/** The edges of what was seen, sentence by sentence: Terms 4 and promises 22 to 26. */
public final class SeenEdgesTest {
    private static final Check CHECK = new Check();
    private static final int BAD = DeadLasts.BAD;

    public static void main(String[] args) {
        eightAtMost();
        numbers();
        forgotten();
        cellsThatThereAreNot();
        peopleThatThereAreNot();
        neverOfEight();
        neverOfOneAlone();
        woreOfEight();
        woreInPlaceOfItsOwn();
        firstAndLastSteps();
        askedSteps();
        askedOfRightLasts();
        askedOfLikeOnes();
        toldNumbers();
        CHECK.finish();
    }

    private static DeadLasts seen(int many) {
        DeadLasts x = new DeadLasts();
        for (int i = 0; i < many; i++) {
            x.seen(i, i, i);
        }
        return x;
    }

    private static void eightAtMost() {
        CHECK.says("SEEN, 8 at most");
        for (int many = 0; many < 8; many++) {
            DeadLasts x = seen(many);
            CHECK.due("one behind " + many, x.seen(29, 7, 35), many + 1);
            CHECK.due("count(7)", x.count(7), many + 1);
        }
        CHECK.says("SEEN more: how many. BAD; FULL.");
        DeadLasts x = seen(8);
        CHECK.due("a ninth", x.seen(0, 0, 0), DeadLasts.FULL);
        CHECK.due("BAD ahead of FULL: the STEP", x.seen(30, 0, 0), BAD);
        CHECK.due("BAD ahead of FULL: the PERSON", x.seen(0, 8, 0), BAD);
        CHECK.due("BAD ahead of FULL: the CELL", x.seen(0, 0, 36), BAD);
        CHECK.due("still eight", x.count(7), 8);
    }

    private static void numbers() {
        CHECK.says("behind a STEP a PERSON (0 to 7) was on a CELL (0 to 35; one that there is not: never)");
        CHECK.range("seen(step, ..)", step -> new DeadLasts().seen(step, 0, 0), 0, 29);
        CHECK.range("seen(.., person, ..)", person -> new DeadLasts().seen(0, person, 0), 0, 7);
        CHECK.range("seen(.., cell)", cell -> new DeadLasts().seen(0, 0, cell), 0, 35);
        DeadLasts x = Check.made("..", "pe", "00000n");
        CHECK.due("a PERSON who is not there", x.seen(0, 7, 0), 1);
        CHECK.due("a CELL that is not there", x.seen(0, 0, 35), 2);
    }

    private static void forgotten() {
        CHECK.says("All SEEN are forgotten: how many.");
        for (int many = 0; many <= 8; many++) {
            DeadLasts x = seen(many);
            CHECK.due("forget() of " + many, x.forget(), many);
            CHECK.due("count(7)", x.count(7), 0);
            CHECK.due("forget() again", x.forget(), 0);
            CHECK.due("seen again", x.seen(0, 0, 0), 1);
        }
        DeadLasts y = Check.made("..", "pe", "00000w", 5);
        y.seen(0, 0, 0);
        CHECK.due("seen", y.never(), 0);
        y.forget();
        CHECK.due("forgotten", y.never(), 1);
    }

    private static void cellsThatThereAreNot() {
        CHECK.says("0 to 35; one that there is not: never");
        DeadLasts x = Check.made("......", "pe", "05000n;06000n", 9);
        x.seen(3, 0, 5);
        CHECK.due("the last CELL: never()", x.never(), 1);
        CHECK.due("the last CELL: wore(0, 0)", x.wore(0, 0), 255);
        x.forget();
        x.seen(3, 1, 6);
        CHECK.due("one beyond, by one who is lost: never()", x.never(), 0);
        CHECK.due("one beyond, by one who is lost: wore(1, 0)", x.wore(1, 0), 0);
        CHECK.due("one beyond, by one who is lost: wore(0, 1)", x.wore(0, 1), 0);
        x.forget();
        x.seen(3, 0, 6);
        CHECK.due("one beyond: never()", x.never(), 0);
        DeadLasts y = Check.made(Check.times(6, "......"), "pe", "35000n", 9);
        y.seen(0, 0, 35);
        CHECK.due("the highest number: never()", y.never(), 1);
        DeadLasts z = Check.made(".#", "pe", "00000n;01000n", 9);
        z.seen(0, 1, 1);
        CHECK.due("one who is lost on a wall is not there: never()", z.never(), 0);
    }

    private static void peopleThatThereAreNot() {
        CHECK.says("behind a STEP a PERSON (0 to 7) was on a CELL");
        for (int many = 1; many <= 7; many++) {
            DeadLasts x = Check.made(".", "pn", Check.times(many, "00000n"), 4);
            x.seen(0, many - 1, 0);
            CHECK.due("the last of " + many + ": never()", x.never(), 1);
            CHECK.due("the last of " + many + ": wore(0, 0)", x.wore(0, 0), 255);
            x.seen(0, many, 0);
            CHECK.due("one beyond " + many + ": never()", x.never(), 0);
            CHECK.due("one beyond " + many + ": wore(0, 0)", x.wore(0, 0), 0);
            CHECK.due("one beyond " + many + ": wore(0, 1)", x.wore(0, 1), 0);
            CHECK.due("one beyond " + many + ": ask(0)", x.ask(0), 0);
            Check.typed(x, 2, ";00000n");
            CHECK.due("then it comes: never()", x.never(), 1);
            x.undo(2);
            x.wipe(2);
            Check.typed(x, 2, Check.times(many, "00000n"));
            x.forget();
            x.seen(0, many, 0);
            CHECK.due("one beyond " + many + " alone: never()", x.never(), 0);
            CHECK.due("one beyond " + many + " alone: wore(0, 0)", x.wore(0, 0), 0);
        }
    }

    private static void neverOfEight() {
        CHECK.says("NEVER: RAINS each of which, had it alone not been, makes all that was SEEN come out so, as bits.");
        CHECK.due("no rain", Check.made(".", "pn", "00000n").never(), 0);
        for (int many = 1; many <= 8; many++) {
            DeadLasts x = Check.made(".....", "pe", "00000w");
            for (int i = 0; i < many; i++) {
                x.rain(20 + i);
            }
            CHECK.due(many + " rains, nothing seen", x.never(), (1 << many) - 1);
            x.seen(0, 0, 1);
            CHECK.due(many + " rains, seen as it is", x.never(), (1 << many) - 1);
            x.seen(0, 0, 0);
            CHECK.due(many + " rains, seen as it is not", x.never(), 0);
        }
        DeadLasts y = Check.made("......", "pe", "00000w", 0, 1, 2, 3);
        y.seen(3, 0, 1);
        CHECK.due("one east behind STEP 3: the last of them was not", y.never(), 8);
        y.forget();
        y.seen(29, 0, 5);
        CHECK.due("any of them", y.never(), 15);
    }

    private static void neverOfOneAlone() {
        CHECK.says("had it alone not been");
        DeadLasts x = Check.made("......", "pe", "00000w", 0, 1);
        x.seen(1, 0, 2);
        CHECK.due("both would have to go", x.never(), 0);
        x.forget();
        x.seen(1, 0, 1);
        CHECK.due("the second", x.never(), 2);
        x.back();
        CHECK.due("the first, when it is alone, leads farther", x.never(), 0);
        x.forget();
        x.seen(1, 0, 2);
        CHECK.due("the first alone", x.never(), 1);
        x.rain(0);
        CHECK.due("of two in one the other stays", x.never(), 0);
        x.forget();
        x.seen(1, 0, 1);
        CHECK.due("and it comes out as it was", x.never(), 3);
        CHECK.due("the rain is as it was", x.count(6), 2);
    }

    private static void woreOfEight() {
        CHECK.says("WORE of a PERSON: lasts (0 to 7) as its LEFT one, as its RIGHT one, in place of its own, likewise, as bits.");
        for (int last = 0; last < 8; last++) {
            String lasts = Check.times(8, "pn").substring(0, 3 * last) + "pe" + Check.times(8, "pn").substring(3 * last + 2);
            DeadLasts x = Check.made("...;...;...", lasts, "04770s");
            CHECK.due("nothing seen: wore(0, 0)", x.wore(0, 0), 255);
            CHECK.due("nothing seen: wore(0, 1)", x.wore(0, 1), 255);
            x.seen(0, 0, 5);
            CHECK.due("east in STEP 0 by " + last, x.wore(0, 0), 1 << last);
            CHECK.due("whatever on the right", x.wore(0, 1), last == 7 ? 255 : 0);
            x.forget();
            x.seen(0, 0, last == 7 ? 5 : 1);
            x.seen(1, 0, 2);
            CHECK.due("east or north in STEP 1", x.wore(0, 1), last == 7 ? 127 : 1 << last);
        }
        CHECK.says("lasts (0 to 7)");
        for (int many = 0; many <= 8; many++) {
            DeadLasts x = Check.made("...;...;...", Check.times(many, "pe"), "04770s");
            x.seen(0, 0, 5);
            CHECK.due("there are " + many + ": by a last", x.wore(0, 0), (1 << many) - 1);
            x.forget();
            x.seen(0, 0, 7);
            CHECK.due("there are " + many + ": by none", x.wore(0, 0), 255 - ((1 << many) - 1));
        }
    }

    private static void woreInPlaceOfItsOwn() {
        CHECK.says("in place of its own, likewise");
        DeadLasts x = Check.made("...;...;...", "pn;pe", "04000s;04110s");
        x.seen(0, 0, 5);
        CHECK.due("the first: wore(0, 0)", x.wore(0, 0), 2);
        CHECK.due("its right one does not help", x.wore(0, 1), 0);
        CHECK.due("nor do the second one's", x.wore(1, 0), 0);
        x.forget();
        x.seen(0, 0, 1);
        x.seen(0, 1, 5);
        CHECK.due("all as it is: wore(0, 0)", x.wore(0, 0), 1);
        CHECK.due("all as it is: wore(1, 0)", x.wore(1, 0), 2);
        CHECK.due("all as it is: wore(1, 1)", x.wore(1, 1), 255);
        CHECK.due("person(0, 1) is as it was", x.person(0, 1), 0);
        CHECK.due("at(0, 0, 0) is as it was", x.at(0, 0, 0), 1);
        x.rain(0);
        CHECK.due("in the rain none does", x.wore(0, 0), 0);
    }

    private static void firstAndLastSteps() {
        CHECK.says("behind a STEP a PERSON (0 to 7) was on a CELL");
        DeadLasts x = Check.made("..c", "pe;pn", "00000n", 20);
        int[] cells = {1, 2, 2};
        int[] steps = {0, 1, 29};
        for (int i = 0; i < 3; i++) {
            for (int cell = 0; cell < 3; cell++) {
                x.forget();
                x.seen(steps[i], 0, cell);
                CHECK.due("on " + cell + " behind " + steps[i], x.never(), cell == cells[i] ? 1 : 0);
            }
        }
        x.forget();
        x.seen(29, 0, 1);
        CHECK.due("on 1 behind STEP 29", x.wore(0, 0), 0);
        // by its last in STEPS 5, 10, 15, 20 and 29
        DeadLasts y = Check.made("......", "pe", "00004n", 23);
        y.seen(28, 0, 4);
        y.seen(29, 0, 5);
        CHECK.due("behind STEPS 28 and 29: the left", y.wore(0, 0), 1);
        CHECK.due("behind STEPS 28 and 29: the right", y.wore(0, 1), 1);
    }

    private static void askedSteps() {
        CHECK.says("the STEP behind which the greatest number of RIGHT lasts that it may have WORE by which it is"
                + " on the like CELL is least");
        // behind STEP 0 all eight on 1; behind STEP 1 one each on 2, 4, 0, five on 1, and never fewer
        DeadLasts x = Check.made("...;#.#;...", "pn;pe;ps;pw", "04070n");
        CHECK.due("lasts that there are not go the own way", x.ask(0), 1);
        DeadLasts open = Check.made(".....;.....;.....;.....;.....", "pn;pe;ps;pw;pnn;pee;pss;pww", "12000n");
        CHECK.due("pairs of like ones", open.ask(0), 1);
        // four times soled, rain in STEP 23: the right foot goes by its last in STEPS 5, 15 and 29
        for (int rain = 22; rain <= 24; rain++) {
            DeadLasts y = Check.made("......", "pn;pe;de", "00004n", rain);
            y.seen(5, 0, 1);
            CHECK.due("two are left", y.wore(0, 1), 6);
            CHECK.due("rain in " + rain, y.ask(0), rain == 23 ? 29 : 0);
        }
        DeadLasts z = Check.made("......", "pe;pn", "00100n");
        z.seen(1, 0, 1);
        CHECK.due("one is left", z.wore(0, 1), 1);
        CHECK.due("then any STEP will do", z.ask(0), 0);
    }

    private static void askedOfRightLasts() {
        CHECK.says("the greatest number of RIGHT lasts");
        // behind STEP 1 three, two, two, one; behind STEP 3 two at most; and never fewer, for some are alike
        DeadLasts x = Check.made(Check.times(6, "......"), "pnn;pnn;pne;pee;pee;pss;pss;pww", "21770n");
        CHECK.due("behind STEP 3", x.ask(0), 3);
        CHECK.due("wore(0, 0)", x.wore(0, 0), 255);
        CHECK.due("by LEFT ones they part in STEP 0", x.ask(0), 3);
        DeadLasts y = Check.made(Check.times(6, "......"), "pne;pne;pnn;pee;pee;pss;pss;pww", "21770n");
        CHECK.due("by others", y.ask(0), 3);
        y.seen(1, 0, 14);
        CHECK.due("three are left", y.wore(0, 1), 7);
        CHECK.due("two of them part from one", y.ask(0), 3);
        y.seen(3, 0, 14);
        CHECK.due("two are left", y.wore(0, 1), 3);
        CHECK.due("they never part", y.ask(0), 0);
    }

    private static void askedOfLikeOnes() {
        CHECK.says("is least, of like ones the least");
        DeadLasts x = Check.made(".", "pn", "00000n");
        CHECK.due("they never part", x.ask(0), 0);
        x.seen(0, 0, 1);
        CHECK.due("none may be", x.ask(0), 0);
        CHECK.due("no town", Check.made("", "pn", "00000n").ask(0), 0);
        CHECK.due("no lasts", Check.made("..", "", "00000n").ask(0), 0);
        CHECK.due("come ahead of STEP 0", Check.made("c.", "pe", "00000n").ask(0), 0);
        // seven north and one south part behind STEP 1, and stay so behind all others
        CHECK.due("the first of many", Check.made(".;.;.", Check.times(7, "pn") + ";ps", "01000n", 0).ask(0), 1);
        // behind STEP 1 four and four; behind STEP 3 two, four, two; behind STEP 5 by twos
        DeadLasts y = Check.made("......", "pee;pee;pew;pew;pww;pww;pwe;pwe", "02770n", 0, 2, 4);
        CHECK.due("parted once more is less", y.ask(0), 5);
    }

    private static void toldNumbers() {
        CHECK.says("WORE: LEFT (what = 0), RIGHT (1), as bits. BAD.");
        CHECK.due("wore(0, 0) of nobody", new DeadLasts().wore(0, 0), BAD);
        CHECK.due("ask(0) of nobody", new DeadLasts().ask(0), BAD);
        for (int many = 1; many <= 8; many++) {
            DeadLasts x = Check.made("..c", "pe", Check.times(many, "00000n"));
            CHECK.says("WORE: LEFT (what = 0), RIGHT (1), as bits. BAD.");
            CHECK.range("wore(0, what)", what -> x.wore(0, what), 0, 1);
            CHECK.range("wore(person, 1)", person -> x.wore(person, 1), 0, many - 1);
            CHECK.says("ASK. BAD.");
            CHECK.range("ask", x::ask, 0, many - 1);
        }
    }
}
