/** Counts the answers that are not the ones due, and makes objects for tests. */
final class Check {
    private int asked = 0;
    private int wrong = 0;

    void due(String call, long got, long want) {
        asked++;
        if (got != want) {
            wrong++;
            System.out.println(call + " answered " + got + ", due is " + want);
        }
    }

    void yes(String what, boolean holds) {
        due(what, holds ? 1 : 0, 1);
    }

    /** An object with its three texts typed and its rains fallen. */
    static DeadLasts made(String town, String lasts, String people, int... rains) {
        DeadLasts x = new DeadLasts();
        typed(x, 0, town);
        typed(x, 1, lasts);
        typed(x, 2, people);
        for (int step : rains) {
            x.rain(step);
        }
        return x;
    }

    static void typed(DeadLasts x, int text, String signs) {
        for (int i = 0; i < signs.length(); i++) {
            x.type(text, signs.charAt(i));
        }
    }

    void finish() {
        System.out.println(asked + " answers looked at, " + wrong + " not as due");
        if (wrong != 0) {
            System.exit(1);
        }
    }
}
