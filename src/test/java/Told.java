import java.util.ArrayList;
import java.util.List;

/** All that an object tells: as it stands, and then while it is taken apart, byte by byte. */
final class Told {
    private final DeadLasts x;
    private final List<Long> answers = new ArrayList<>();

    private Told(DeadLasts x) {
        this.x = x;
    }

    /** The latest FINDING is not among the answers; the object is of no use behind this. */
    static List<Long> of(DeadLasts x) {
        Told told = new Told(x);
        told.standing();
        told.sheets();
        told.seen();
        told.rains();
        told.texts();
        return told.answers;
    }

    private void add(long answer) {
        answers.add(answer);
    }

    private void standing() {
        for (int what = 0; what <= 7; what++) {
            add(x.count(what));
        }
        add(x.digest());
        for (int p = 0; p < x.count(2); p++) {
            for (int step = 0; step < 30; step += 3) {
                add(x.at(step, p, 0));
                add(x.at(step, p, 2));
            }
        }
        add(x.dry(1));
    }

    /** Of each SHEET its FORM, as far as it is told, its first items and how many it had. */
    private void sheets() {
        for (int s = 0; s < 4; s++) {
            for (int form = 0; form < 3; form++) {
                for (int i = 0; i < 5; i++) {
                    // a FINDING of which get knows none: if it is still there, the item was told
                    x.sheet(0, 0, -1);
                    add(x.get(s, form, i));
                    add(x.count(8));
                }
            }
            add(x.lose(s));
        }
    }

    private void seen() {
        add(x.forget());
        add(x.digest());
    }

    private void rains() {
        for (int i = 0; i < 9; i++) {
            add(x.back());
            add(x.digest());
        }
    }

    /** People go last but for the town, so that what is left of the lasts shows in their walks. */
    private void texts() {
        for (int text : new int[] {1, 0, 2}) {
            for (int left = x.count(3 + text); left >= 0; left--) {
                add(x.undo(text));
                add(x.fault(text));
                if (left % 4 == 0) {
                    add(x.digest());
                }
            }
        }
    }
}
