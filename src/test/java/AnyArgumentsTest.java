import java.util.Random;

/**
 * All promises: whatever the numbers, in whatever state, a call answers and does not throw; and a
 * refusal changes nothing but the latest FINDING.
 */
public final class AnyArgumentsTest {
    private static final Check CHECK = new Check();
    private static final int[] EDGES = {Integer.MIN_VALUE, Integer.MIN_VALUE + 1, -65536, -32769, -129, -2, -1,
        0, 1, 2, 3, 4, 5, 6, 7, 8, 9, 10, 16, 17, 29, 30, 31, 35, 36, 41, 46, 59, 60, 61, 64, 99, 255, 256,
        32768, 65536, Integer.MAX_VALUE - 1, Integer.MAX_VALUE};

    private final Random random;
    private final DeadLasts x;

    private AnyArgumentsTest(int seed) {
        random = new Random(seed);
        x = seed % 3 == 0 ? new DeadLasts() : Check.made("......;..#..c;....r.;......", "pes;dne;te;pw;pnnee",
                "00000e;00120n;20331w;28215s;08004n;16000n;11440e", 0, 3, 3, 29);
    }

    public static void main(String[] args) {
        for (int seed = 0; seed < 60; seed++) {
            new AnyArgumentsTest(seed).calls();
        }
        CHECK.finish();
    }

    private int any() {
        return random.nextInt(3) == 0 ? random.nextInt(9) - 1 : EDGES[random.nextInt(EDGES.length)];
    }

    private void calls() {
        for (int i = 0; i < 512; i++) {
            int call = random.nextInt(37);
            boolean looked = i % 8 == 0;
            long before = looked ? state() : 0;
            long answer = call < 19 ? first(call) : second(call);
            if (looked && isRefusal(call, answer)) {
                CHECK.due("state behind a refusal of call " + call, state(), before);
            }
            CHECK.yes("call " + call + " answers " + answer, mayAnswer(call, answer));
        }
    }

    private static boolean isRefusal(int call, long answer) {
        boolean isGet = call == 31;
        boolean isStorm = call == 26;
        return isStorm ? answer < 0 : isGet ? answer == Integer.MIN_VALUE : call != 36 && answer < -1;
    }

    private static boolean mayAnswer(int call, long answer) {
        if (call == 36 || call == 31) {
            return true;
        }
        return call == 26 ? answer >= 0 || answer == Long.MIN_VALUE + 2 : answer >= -15 && (answer >= -4 || answer <= -11);
    }

    /** All that can be told of an object but its latest FINDING. */
    private long state() {
        long h = x.digest();
        for (int s = 0; s < 4; s++) {
            for (int form = 0; form < 3; form++) {
                for (int i = 0; i < 60; i++) {
                    h = 31 * h + x.get(s, form, i);
                }
            }
        }
        return h;
    }

    private long first(int call) {
        switch (call) {
            case 0:
                return x.type(any(), any());
            case 1:
                return random.nextInt(10) == 0 ? x.wipe(any()) : 0;
            case 2:
                return x.undo(any());
            case 3:
                return x.fault(any());
            case 4:
                return x.cell(any());
            case 5:
                return x.last(any(), any());
            case 6:
                return x.person(any(), any());
            case 7:
                return x.rain(any());
            case 8:
                return x.back();
            case 9:
                return x.read(any());
            case 10:
                return x.at(any(), any(), any());
            case 11:
                return x.ends(any(), any());
            case 12:
                return x.who(any());
            case 13:
                return x.met(any());
            case 14:
                return x.worn(any());
            case 15:
                return x.rifest();
            case 16:
                return x.pair(any(), any());
            case 17:
                return x.soles(any());
            default:
                return x.match();
        }
    }

    private long second(int call) {
        switch (call) {
            case 19:
                return x.dry(any());
            case 20:
                return x.seen(any(), any(), any());
            case 21:
                return random.nextInt(4) == 0 ? x.forget() : 0;
            case 22:
                return x.never();
            case 23:
                return x.wore(any(), any());
            case 24:
            case 25:
                return x.ask(any());
            case 26:
                return x.storm(any(), any(), any(), any());
            case 27:
                return x.shelves(any(), any());
            case 28:
                return x.sheet(any(), any(), any());
            case 29:
                return random.nextInt(4) == 0 ? x.lose(any()) : 0;
            case 30:
                return x.lay(any(), any(), any(), any());
            case 31:
                return x.get(any(), any(), any());
            case 32:
            case 33:
                return x.copy(any(), any(), any(), any(), any());
            case 34:
                return x.write(any(), any());
            case 35:
                return x.count(any());
            default:
                return x.digest();
        }
    }
}
