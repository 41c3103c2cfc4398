/** Promises 9 to 11: rain, back, read. */
public final class RainTest {
    private static final Check CHECK = new Check();

    public static void main(String[] args) {
        raining();
        twoInOneAreOne();
        reading();
        readingBehindWhatWas();
        readingTheSameTwice();
        readingBehindAsManyAsThereMayBe();
        CHECK.finish();
    }

    private static void raining() {
        DeadLasts x = new DeadLasts();
        CHECK.due("back() of none", x.back(), DeadLasts.NOT);
        CHECK.due("rain(-1)", x.rain(-1), DeadLasts.BAD);
        CHECK.due("rain(30)", x.rain(30), DeadLasts.BAD);
        for (int i = 1; i <= 8; i++) {
            CHECK.due("rain(29)", x.rain(29), i);
        }
        CHECK.due("a ninth rain", x.rain(0), DeadLasts.FULL);
        CHECK.due("BAD goes ahead of FULL", x.rain(30), DeadLasts.BAD);
        CHECK.due("count(6)", x.count(6), 8);
        for (int i = 7; i >= 0; i--) {
            CHECK.due("back()", x.back(), i);
        }
        CHECK.due("back() of none again", x.back(), DeadLasts.NOT);
    }

    private static void twoInOneAreOne() {
        DeadLasts x = Check.made(".....", "pe", "00000w", 0, 0);
        CHECK.due("it rains once in STEP 0", x.at(2, 0, 0), 2);
        x.back();
        CHECK.due("one of two is enough", x.at(2, 0, 0), 2);
        x.back();
        CHECK.due("dry again", x.at(2, 0, 0), 3);
    }

    private static void sheetOf(DeadLasts x, int s, int form, int... items) {
        x.sheet(s, form, items.length);
        for (int i = 0; i < items.length; i++) {
            x.lay(s, form, i, items[i]);
        }
    }

    private static void reading() {
        DeadLasts x = Check.made(".....", "pe", "00000w");
        CHECK.due("read(-1)", x.read(-1), DeadLasts.BAD);
        CHECK.due("read(4)", x.read(4), DeadLasts.BAD);
        CHECK.due("BAD is no finding", x.count(8), 0);
        CHECK.due("read of a lost sheet", x.read(3), -11);
        CHECK.due("count(8)", x.count(8), 1);
        sheetOf(x, 0, 0, 0, 1, 29, 30, 2);
        CHECK.due("up to what is no STEP", x.read(0), 3);
        CHECK.due("count(6)", x.count(6), 3);
        CHECK.due("it rained in STEPS 0 and 1", x.at(2, 0, 0), 1);
        sheetOf(x, 1, 2, 5, -1, 6);
        CHECK.due("up to one below 0: how many have come so", x.read(1), 1);
        CHECK.due("count(6) behind the second read", x.count(6), 4);
        sheetOf(x, 2, 1, 1, 1, 1, 1, 1, 1, 1, 1, 1, 1);
        CHECK.due("8 at most, with those that were", x.read(2), 4);
        CHECK.due("count(6) of eight", x.count(6), 8);
        CHECK.due("then one more is FULL", x.rain(1), DeadLasts.FULL);
        CHECK.due("and none may come from a SHEET", x.read(2), 0);
        x.sheet(3, 2, 0);
        CHECK.due("a sheet without items", x.read(3), 0);
        CHECK.due("count(6) still", x.count(6), 8);
    }

    private static void readingBehindWhatWas() {
        DeadLasts x = Check.made(".....", "pe", "00000w", 0, 1);
        CHECK.due("it rained in STEPS 0 and 1", x.at(2, 0, 0), 1);
        sheetOf(x, 0, 2, 2, 30);
        CHECK.due("read", x.read(0), 1);
        CHECK.due("the rain that was is, and the new one", x.at(2, 0, 0), 0);
        CHECK.due("count(6)", x.count(6), 3);
        CHECK.due("a refusal changes nothing", x.read(1), -11);
        CHECK.due("count(6) behind it", x.count(6), 3);
        CHECK.due("the one that was read is undone first", x.back(), 2);
        CHECK.due("dry in STEP 2 again", x.at(2, 0, 0), 1);
    }

    private static void readingTheSameTwice() {
        DeadLasts x = new DeadLasts();
        x.sheet(2, 0, 1);
        CHECK.due("read", x.read(2), 1);
        CHECK.due("read again", x.read(2), 1);
        CHECK.due("never() of two RAINS", x.never(), 3);
    }

    private static void readingBehindAsManyAsThereMayBe() {
        DeadLasts x = new DeadLasts();
        sheetOf(x, 0, 2, 29, 0, 30);
        for (int before = 0; before <= 8; before++) {
            while (x.back() >= 0) {
                continue;
            }
            for (int i = 0; i < before; i++) {
                x.rain(7);
            }
            CHECK.due("read behind " + before, x.read(0), Math.min(2, 8 - before));
            CHECK.due("count(6) behind " + before, x.count(6), Math.min(8, before + 2));
        }
    }
}
