/** Counts the answers that are not as due, and tells them. */
final class Check {
    private final String test;
    private int wrong;

    Check(String test) {
        this.test = test;
    }

    void due(String call, long got, long want) {
        if (got != want) {
            wrong++;
            System.out.println(test + ": " + call + " answered " + got + ", due is " + want);
        }
    }

    void due(String call, boolean got, boolean want) {
        due(call, got ? 1 : 0, want ? 1 : 0);
    }

    void refused(String call, int got) {
        due(call, got, ScheduleLab.REFUSED);
    }

    /** What 'now' has to answer for 0 and on. */
    void isNow(String when, ScheduleLab lab, int... want) {
        for (int what = 0; what < want.length; what++) {
            due(when + ": now(" + what + ")", lab.now(what), want[what]);
        }
    }

    /** The endings from the least on, and that there is none beside them. */
    void endingsAre(String when, ScheduleLab lab, int... want) {
        due(when + ": endings()", lab.endings(), want.length);
        for (int k = 0; k < want.length; k++) {
            due(when + ": ending(" + k + ")", lab.ending(k), want[k]);
        }
        for (int k : Programs.outside(0, want.length - 1)) {
            refused(when + ": ending(" + k + ")", lab.ending(k));
        }
    }

    /** The row of steps that leads to what is sought, and that there is no step beside them. */
    void wayIs(String when, ScheduleLab lab, int what, int... row) {
        due(when + ": soonest(" + what + ")", lab.soonest(what), row.length);
        for (int k = 0; k < row.length; k++) {
            due(when + ": step(" + what + ", " + k + ")", lab.step(what, k), row[k]);
        }
        for (int k : Programs.outside(0, row.length - 1)) {
            refused(when + ": step(" + what + ", " + k + ")", lab.step(what, k));
        }
    }

    /** NEVER, for soonest and for a step of whatever number. */
    void isNever(String when, ScheduleLab lab, int what) {
        due(when + ": soonest(" + what + ")", lab.soonest(what), ScheduleLab.NEVER);
        for (int k = -1; k <= 1; k++) {
            due(when + ": step(" + what + ", " + k + ")", lab.step(what, k), ScheduleLab.NEVER);
        }
    }

    void end() {
        if (wrong != 0) {
            System.exit(1);
        }
    }
}
