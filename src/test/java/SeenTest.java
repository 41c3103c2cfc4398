/** Promises 22 to 26: seen, forget, never, wore, ask. */
public final class SeenTest {
    private static final Check CHECK = new Check();

    public static void main(String[] args) {
        seeing();
        never();
        wore();
        woreByOthers();
        ask();
        CHECK.finish();
    }

    private static void seeing() {
        DeadLasts x = new DeadLasts();
        CHECK.due("seen(-1, 0, 0)", x.seen(-1, 0, 0), DeadLasts.BAD);
        CHECK.due("seen(30, 0, 0)", x.seen(30, 0, 0), DeadLasts.BAD);
        CHECK.due("seen(0, -1, 0)", x.seen(0, -1, 0), DeadLasts.BAD);
        CHECK.due("seen(0, 8, 0)", x.seen(0, 8, 0), DeadLasts.BAD);
        CHECK.due("seen(0, 0, -1)", x.seen(0, 0, -1), DeadLasts.BAD);
        CHECK.due("seen(0, 0, 36)", x.seen(0, 0, 36), DeadLasts.BAD);
        CHECK.due("forget() of none", x.forget(), 0);
        for (int i = 1; i <= 8; i++) {
            CHECK.due("seen(29, 7, 35)", x.seen(29, 7, 35), i);
        }
        CHECK.due("a ninth", x.seen(0, 0, 0), DeadLasts.FULL);
        CHECK.due("BAD goes ahead of FULL", x.seen(30, 0, 0), DeadLasts.BAD);
        CHECK.due("count(7)", x.count(7), 8);
        CHECK.due("forget()", x.forget(), 8);
        CHECK.due("count(7) then", x.count(7), 0);
        CHECK.due("seen again", x.seen(0, 0, 0), 1);
    }

    private static void never() {
        DeadLasts x = Check.made(".....", "pe", "00000w", 0, 3);
        CHECK.due("nothing seen: any", x.never(), 3);
        x.seen(2, 0, 3);
        CHECK.due("on 3 behind STEP 2: not the first", x.never(), 1);
        x.seen(4, 0, 3);
        CHECK.due("on 3 behind STEP 4, too", x.never(), 1);
        x.seen(4, 0, 4);
        CHECK.due("not on two cells", x.never(), 0);
        x.forget();
        x.seen(2, 0, 2);
        CHECK.due("on 2 behind STEP 2: not the second", x.never(), 2);
        x.rain(3);
        CHECK.due("another rain in its STEP stays", x.never(), 6);
        x.forget();
        x.seen(0, 1, 0);
        CHECK.due("one who is not there", x.never(), 0);
        x.forget();
        x.seen(0, 0, 35);
        CHECK.due("a cell that is not there", x.never(), 0);
        DeadLasts y = new DeadLasts();
        CHECK.due("no rain", y.never(), 0);
        y.rain(1);
        CHECK.due("nothing seen of nobody", y.never(), 1);
    }

    private static void wore() {
        DeadLasts x = Check.made("...;...;...", "pn;pe;ps;pw", "04100n");
        CHECK.due("nothing seen: left", x.wore(0, 0), 255);
        CHECK.due("nothing seen: right", x.wore(0, 1), 255);
        x.seen(0, 0, 5);
        CHECK.due("on 5 behind STEP 0: left", x.wore(0, 0), 2);
        CHECK.due("on 5 behind STEP 0: right", x.wore(0, 1), 255);
        x.seen(1, 0, 2);
        CHECK.due("on 2 behind STEP 1: left", x.wore(0, 0), 2);
        CHECK.due("on 2 behind STEP 1: right", x.wore(0, 1), 1 + 240);
        x.seen(1, 0, 4);
        CHECK.due("on two cells", x.wore(0, 1), 0);
        CHECK.due("wore(1, 0)", x.wore(1, 0), DeadLasts.BAD);
        CHECK.due("wore(-1, 0)", x.wore(-1, 0), DeadLasts.BAD);
        CHECK.due("wore(0, 2)", x.wore(0, 2), DeadLasts.BAD);
        CHECK.due("wore(0, -1)", x.wore(0, -1), DeadLasts.BAD);
        DeadLasts y = Check.made("...;...;...", "pn;pe;ps;pw", "04000e");
        y.seen(0, 0, 5);
        CHECK.due("a last that is not there goes the own way", y.wore(0, 0), 2 + 240);
        DeadLasts z = Check.made("c.", "pn", "00000e;05000e");
        z.seen(7, 0, 0);
        CHECK.due("one who has come is seen there", z.wore(0, 0), 255);
        z.seen(7, 1, 0);
        CHECK.due("one who is lost is nowhere", z.wore(1, 0), 0);
    }

    private static void woreByOthers() {
        DeadLasts x = Check.made("...", "pe", "00000w;00000w");
        x.seen(0, 1, 1);
        CHECK.due("the other one was where it is", x.wore(0, 0), 255);
        CHECK.due("and by what", x.wore(1, 0), 1);
        x.seen(0, 1, 2);
        CHECK.due("the other one was not there", x.wore(0, 0), 0);
        x.forget();
        x.seen(0, 2, 0);
        CHECK.due("a third one is not there", x.wore(0, 0), 0);
        x.forget();
        x.seen(1, 0, 2);
        x.rain(0);
        CHECK.due("in the rain that is", x.wore(0, 1), 0);
        x.back();
        CHECK.due("in the dry", x.wore(0, 1), 1);
    }

    private static void ask() {
        DeadLasts x = Check.made("...;...;...", "pn;pe;ps;pw", "04100n");
        // behind STEP 0 all are on 5; behind STEP 1 five on 2, one each on 5, 8 and 4
        CHECK.due("the first that tells most", x.ask(0), 1);
        x.seen(1, 0, 2);
        CHECK.due("five that never part", x.ask(0), 0);
        x.forget();
        x.seen(0, 0, 0);
        CHECK.due("none left", x.ask(0), 0);
        CHECK.due("ask(1)", x.ask(1), DeadLasts.BAD);
        CHECK.due("ask(-1)", x.ask(-1), DeadLasts.BAD);
        // east, east, west against east, east, east: they part behind STEP 5
        DeadLasts y = Check.made("......;......", "pn;pe;de;ps;ps;ps;ps;ps", "00010n");
        y.seen(1, 0, 1);
        CHECK.due("two are left", y.wore(0, 1), 6);
        CHECK.due("they part late", y.ask(0), 5);
        DeadLasts z = Check.made("#", "pn", "00000n");
        CHECK.due("one who is lost", z.ask(0), 0);
    }
}
