/** Promises 9 to 11: rain, back, read. */
public final class RainTest {
    private static final Check CHECK = new Check();

    public static void main(String[] args) {
        raining();
        twoInOneAreOne();
        reading();
        readingInPlaceOfWhatWas();
        CHECK.finish();
    }

    private static void raining() {
        DeadLasts x = new DeadLasts();
        CHECK.due("back() of none", x.back(), DeadLasts.NOT);
        CHECK.due("rain(-1)", x.rain(-1), DeadLasts.BAD);
        CHECK.due("rain(30)", x.rain(30), DeadLasts.BAD);
        for (int i = 1; i <= 8; i++) {
            CHECK.due("rain(29)", x.rain(29), i);
        }
        CHECK.due("a ninth rain", x.rain(0), DeadLasts.FULL);
        CHECK.due("BAD goes ahead of FULL", x.rain(30), DeadLasts.BAD);
        CHECK.due("count(6)", x.count(6), 8);
        for (int i = 7; i >= 0; i--) {
            CHECK.due("back()", x.back(), i);
        }
        CHECK.due("back() of none again", x.back(), DeadLasts.NOT);
    }

    private static void twoInOneAreOne() {
        DeadLasts x = Check.made(".....", "pe", "00000w", 0, 0);
        CHECK.due("it rains once in STEP 0", x.at(2, 0, 0), 2);
        x.back();
        CHECK.due("one of two is enough", x.at(2, 0, 0), 2);
        x.back();
        CHECK.due("dry again", x.at(2, 0, 0), 3);
    }

    private static void sheetOf(DeadLasts x, int s, int form, int... items) {
        x.sheet(s, form, items.length);
        for (int i = 0; i < items.length; i++) {
            x.lay(s, form, i, items[i]);
        }
    }

    private static void reading() {
        DeadLasts x = Check.made(".....", "pe", "00000w");
        CHECK.due("read(-1)", x.read(-1), DeadLasts.BAD);
        CHECK.due("read(4)", x.read(4), DeadLasts.BAD);
        CHECK.due("BAD is no finding", x.count(8), 0);
        CHECK.due("read of a lost sheet", x.read(3), -11);
        CHECK.due("count(8)", x.count(8), 1);
        sheetOf(x, 0, 0, 0, 1, 29, 30, 2);
        CHECK.due("up to what is no STEP", x.read(0), 3);
        CHECK.due("count(6)", x.count(6), 3);
        CHECK.due("it rained in STEPS 0 and 1", x.at(2, 0, 0), 1);
        sheetOf(x, 1, 2, 5, -1, 6);
        CHECK.due("up to one below 0", x.read(1), 1);
        sheetOf(x, 2, 1, 1, 1, 1, 1, 1, 1, 1, 1, 1, 1);
        CHECK.due("8 at most", x.read(2), 8);
        CHECK.due("then one more is FULL", x.rain(1), DeadLasts.FULL);
        x.sheet(3, 2, 0);
        CHECK.due("a sheet without items", x.read(3), 0);
    }

    private static void readingInPlaceOfWhatWas() {
        DeadLasts x = Check.made(".....", "pe", "00000w", 0, 1, 2);
        sheetOf(x, 0, 2, 4);
        CHECK.due("read", x.read(0), 1);
        CHECK.due("the rain that was is no more", x.at(2, 0, 0), 3);
        CHECK.due("count(6)", x.count(6), 1);
        CHECK.due("the new one is", x.at(4, 0, 0), 3);
        CHECK.due("a refusal changes nothing", x.read(1), -11);
        CHECK.due("count(6) behind it", x.count(6), 1);
    }
}
