/** The edges of rain, sentence by sentence: Terms 1 and promises 9 to 11. */
public final class RainEdgesTest {
    private static final Check CHECK = new Check();
    private static final int BAD = DeadLasts.BAD;

    public static void main(String[] args) {
        steps();
        eightAtMost();
        twoInOne();
        undone();
        readSheets();
        readItems();
        readUpToEight();
        CHECK.finish();
    }

    private static DeadLasts wet(int many) {
        DeadLasts x = new DeadLasts();
        for (int i = 0; i < many; i++) {
            x.rain(i);
        }
        return x;
    }

    private static void steps() {
        CHECK.says("STEPS are 0 to 29.");
        CHECK.range("rain", step -> new DeadLasts().rain(step), 0, 29);
        for (int step = 0; step < 30; step++) {
            DeadLasts x = Check.made("...", "pn", "01000w", step);
            for (int other = 0; other < 30; other++) {
                CHECK.due("rain in " + step + ": the last of STEP " + other, x.at(other, 0, 3), other == step ? -1 : 0);
            }
        }
    }

    private static void eightAtMost() {
        CHECK.says("RAIN, 8 at most (0 on): STEPS in which it rains");
        for (int many = 0; many < 8; many++) {
            DeadLasts x = wet(many);
            CHECK.due("one behind " + many, x.rain(29), many + 1);
            CHECK.due("count(6)", x.count(6), many + 1);
        }
        CHECK.says("A RAIN more: how many. BAD; FULL.");
        DeadLasts x = wet(8);
        CHECK.due("a ninth", x.rain(29), DeadLasts.FULL);
        CHECK.due("a ninth in a STEP in which it rains", x.rain(0), DeadLasts.FULL);
        CHECK.due("BAD ahead of FULL: 30", x.rain(30), BAD);
        CHECK.due("BAD ahead of FULL: -1", x.rain(-1), BAD);
        CHECK.due("still eight", x.count(6), 8);
        x.back();
        CHECK.due("seven and one", x.rain(29), 8);
    }

    private static void twoInOne() {
        CHECK.says("STEPS in which it rains (two in one are one)");
        for (int many = 1; many <= 8; many++) {
            DeadLasts x = Check.made("......", "pe", "00001w");
            for (int i = 1; i <= many; i++) {
                CHECK.due("each is a RAIN more", x.rain(1), i);
            }
            int[] weights = {2, 0, 2, 1, 0, 2, 1, 0};
            for (int step = 0; step < weights.length; step++) {
                CHECK.due(many + " in one: weight behind " + step, x.at(step, 0, 2), weights[step]);
            }
            for (int left = many - 1; left >= 0; left--) {
                CHECK.due("one of them undone", x.back(), left);
                CHECK.due("wet while there is one: " + left, x.at(1, 0, 2), left > 0 ? 0 : 1);
            }
        }
    }

    private static void undone() {
        CHECK.says("The last RAIN is undone: how many are left. NOT: there is none.");
        CHECK.due("back() of none", new DeadLasts().back(), DeadLasts.NOT);
        CHECK.due("back() of one", wet(1).back(), 0);
        DeadLasts x = wet(8);
        for (int left = 7; left >= 0; left--) {
            CHECK.due("back()", x.back(), left);
            CHECK.due("count(6)", x.count(6), left);
        }
        CHECK.due("back() of none then", x.back(), DeadLasts.NOT);
        CHECK.due("count(6) is not below 0", x.count(6), 0);
        DeadLasts y = Check.made("...", "pn", "01000n", 3, 5);
        y.back();
        CHECK.due("the last, not the first: STEP 3", y.at(3, 0, 3), -1);
        CHECK.due("the last, not the first: STEP 5", y.at(5, 0, 3), 0);
    }

    private static void readSheets() {
        CHECK.says("RAINS from a SHEET: its items, as long as each may be: how many. BAD; NULL.");
        for (int form = 0; form < 3; form++) {
            DeadLasts x = new DeadLasts();
            for (int s = 0; s < 4; s++) {
                x.sheet(s, form, 1);
            }
            CHECK.range("read", s -> x.read(s), 0, 3);
        }
        DeadLasts y = new DeadLasts();
        y.sheet(0, 0, 0);
        CHECK.due("without items", y.read(0), 0);
        CHECK.due("no finding", y.count(8), 0);
        for (int s = 1; s < 4; s++) {
            CHECK.due("NULL of " + s, y.read(s), -11);
        }
        CHECK.due("its number", y.count(8), 1);
        CHECK.due("no rain", y.count(6), 0);
        DeadLasts z = wet(8);
        CHECK.due("NULL when there are eight", z.read(0), -11);
        CHECK.due("BAD when there are eight", z.read(4), BAD);
    }

    private static void readItems() {
        CHECK.says("its items, as long as each may be");
        for (int form = 0; form < 3; form++) {
            for (int item : new int[] {-128, -1, 0, 29, 30, 127}) {
                int taken = item >= 0 && item <= 29 ? 1 : 0;
                DeadLasts x = new DeadLasts();
                Check.laid(x, 1, form, item);
                CHECK.due("one item " + item, x.read(1), taken);
                CHECK.due("RAINS then", x.count(6), taken);
                Check.laid(x, 2, form, 7, item, 8);
                CHECK.due("7, " + item + ", 8", x.read(2), taken == 1 ? 3 : 1);
                CHECK.due("the SHEET is as it was", x.get(2, form, 1), item);
                CHECK.due("its last item too", x.get(2, form, 2), 8);
            }
        }
        // of bytes 256 is 0 and 226 is -30; of shorts 65536 is 0
        DeadLasts y = new DeadLasts();
        Check.laid(y, 0, 0, 256, 285, 226);
        CHECK.due("bytes", y.read(0), 2);
        Check.laid(y, 0, 1, 65536, 256, 0);
        CHECK.due("shorts", y.read(0), 1);
        Check.laid(y, 0, 2, 0, 65536, 0);
        CHECK.due("ints", y.read(0), 1);
        CHECK.due("RAINS in all", y.count(6), 4);
        DeadLasts z = Check.made("...", "pn", "01000n");
        Check.laid(z, 0, 2, 29, 0);
        z.read(0);
        CHECK.due("in STEP 0", z.at(0, 0, 3), -1);
        CHECK.due("in STEP 29", z.at(29, 0, 3), -1);
        CHECK.due("not in STEP 1", z.at(1, 0, 3), 0);
        z.back();
        CHECK.due("the last item is the last RAIN: STEP 0", z.at(0, 0, 3), 0);
        CHECK.due("the first one stays: STEP 29", z.at(29, 0, 3), -1);
    }

    private static void readUpToEight() {
        CHECK.says("RAIN, 8 at most (0 on)");
        for (int before = 0; before <= 8; before++) {
            for (int items = 0; items <= 9; items++) {
                DeadLasts x = wet(before);
                x.sheet(3, 0, items);
                int taken = Math.min(items, 8 - before);
                CHECK.due(items + " items behind " + before, x.read(3), taken);
                CHECK.due("RAINS then", x.count(6), before + taken);
                CHECK.due("one more", x.rain(29), before + taken == 8 ? DeadLasts.FULL : before + taken + 1);
                CHECK.due("no finding", x.count(8), 0);
            }
        }
        DeadLasts y = new DeadLasts();
        y.sheet(0, 1, 60);
        CHECK.due("of sixty items", y.read(0), 8);
        CHECK.due("none may come then", y.read(0), 0);
    }
}
