/**
 * Two objects that have to answer the same. One of them has had calls more, which were refused or
 * only asked, and so may have left nothing behind.
 */
final class Twins {
    /** More than the codes can have. */
    private static final int MOST_STEPS = 31;

    private final Check check;
    private final ScheduleLab lab;
    private final ScheduleLab twin;

    private Twins(Check check, ScheduleLab lab, ScheduleLab twin) {
        this.check = check;
        this.lab = lab;
        this.twin = twin;
    }

    /** In the present state, in the first one, along the codes, and in the codes' lengths. */
    static void areSame(Check check, String when, ScheduleLab lab, ScheduleLab twin) {
        Twins twins = new Twins(check, lab, twin);
        twins.answerTheSame(when);
        twins.goBackTheSame(when);
        twins.answerTheSame(when + ", all taken back");
        twins.runTheSame(when + ", run again");
        for (int t = 0; t < 3; t++) {
            check.due(when + ": clear(" + t + ")", lab.clear(t), twin.clear(t));
        }
    }

    private void answerTheSame(String when) {
        nowIsTheSame(when);
        check.due(when + ": states()", lab.states(), twin.states());
        check.due(when + ": kinds()", lab.kinds(), twin.kinds());
        check.due(when + ": endings()", lab.endings(), twin.endings());
        for (int k = 0; k < 4; k++) {
            check.due(when + ": ending(" + k + ")", lab.ending(k), twin.ending(k));
            check.due(when + ": soonest(" + k + ")", lab.soonest(k), twin.soonest(k));
            check.due(when + ": step(" + k + ", 2)", lab.step(k, 2), twin.step(k, 2));
            check.due(when + ": race(" + k + ")", lab.race(k), twin.race(k));
            check.due(when + ": meet(0, " + k + ", 2, 5)", lab.meet(0, k, 2, 5), twin.meet(0, k, 2, 5));
        }
    }

    private void nowIsTheSame(String when) {
        for (int what = 0; what <= 16; what++) {
            check.due(when + ": now(" + what + ")", lab.now(what), twin.now(what));
        }
    }

    private void goBackTheSame(String when) {
        for (int n = 0; n < MOST_STEPS; n++) {
            check.due(when + ": back()", lab.back(), twin.back());
        }
    }

    private void runTheSame(String when) {
        for (int t = 0; t < 3; t++) {
            for (int k = 0; k < 5; k++) {
                check.due(when + ": go(" + t + ")", lab.go(t), twin.go(t));
            }
            nowIsTheSame(when);
        }
    }
}
