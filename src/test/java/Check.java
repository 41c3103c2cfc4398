import java.util.function.IntToLongFunction;

/** Counts the answers that are not the ones due, and makes objects for tests. */
final class Check {
    private int asked = 0;
    private int wrong = 0;
    private String sentence = "";

    /** From here on the answers looked at are about a sentence of the document, word for word. */
    void says(String words) {
        sentence = "'" + words + "': ";
    }

    void due(String call, long got, long want) {
        asked++;
        if (got != want) {
            wrong++;
            System.out.println(sentence + call + " answered " + got + ", due is " + want);
        }
    }

    void yes(String what, boolean holds) {
        due(what, holds ? 1 : 0, 1);
    }

    /** A number may be from the lowest to the highest; one beyond them on either side is refused. */
    void range(String call, IntToLongFunction asked, int lowest, int highest, long refusal) {
        for (int n = lowest; n <= highest; n++) {
            yes(call + " with " + n + " is not refused", asked.applyAsLong(n) != refusal);
        }
        for (int n : new int[] {lowest - 1, highest + 1, Integer.MIN_VALUE, Integer.MAX_VALUE}) {
            due(call + " with " + n, asked.applyAsLong(n), refusal);
        }
    }

    void range(String call, IntToLongFunction asked, int lowest, int highest) {
        range(call, asked, lowest, highest, DeadLasts.BAD);
    }

    /** An object with its three texts typed and its rains fallen. */
    static DeadLasts made(String town, String lasts, String people, int... rains) {
        DeadLasts x = new DeadLasts();
        typed(x, 0, town);
        typed(x, 1, lasts);
        typed(x, 2, people);
        for (int step : rains) {
            x.rain(step);
        }
        return x;
    }

    static DeadLasts typed(DeadLasts x, int text, String signs) {
        for (int i = 0; i < signs.length(); i++) {
            x.type(text, signs.charAt(i));
        }
        return x;
    }

    /** So many times the same, with ; between them. */
    static String times(int many, String one) {
        return many == 0 ? "" : one + (";" + one).repeat(many - 1);
    }

    /** A SHEET becomes a row of these items. */
    static void laid(DeadLasts x, int s, int form, int... items) {
        x.sheet(s, form, items.length);
        for (int i = 0; i < items.length; i++) {
            x.lay(s, form, i, items[i]);
        }
    }

    void finish() {
        System.out.println(asked + " answers looked at, " + wrong + " not as due");
        if (wrong != 0) {
            System.exit(1);
        }
    }
}
