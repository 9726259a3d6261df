/** Promises 11 and 12: soonest and step. */
public final class WaysTest {
    private static final Check CHECK = new Check("WaysTest");
    private static final int[] NO_KINDS = {-1, 4, Integer.MIN_VALUE, Integer.MAX_VALUE};

    public static void main(String[] args) {
        nothingToDo();
        refusals();
        lowerThreadFirst();
        shorterBeforeLower();
        fourGoals();
        fromThePresent();
        ofAnotherCode();
        overSkips();
        overWaits();
        tooManyStates();
        CHECK.end();
    }

    private static void wayIs(String when, ScheduleLab lab, int what, int... row) {
        String of = when + ", what " + what;
        CHECK.due(of + ": soonest", lab.soonest(what), row.length);
        for (int k = 0; k < row.length; k++) {
            CHECK.due(of + ": step " + k, lab.step(what, k), row[k]);
        }
        int[] none = {-1, row.length, row.length + 1, Integer.MIN_VALUE, Integer.MAX_VALUE};
        for (int k : none) {
            CHECK.due(of + ": step " + k, lab.step(what, k), ScheduleLab.REFUSED);
        }
    }

    private static void isNever(String when, ScheduleLab lab, int what) {
        CHECK.due(when + ": soonest(" + what + ")", lab.soonest(what), ScheduleLab.NEVER);
        CHECK.due(when + ": step(" + what + ", 0)", lab.step(what, 0), ScheduleLab.NEVER);
        CHECK.due(when + ": step(" + what + ", -1)", lab.step(what, -1), ScheduleLab.NEVER);
    }

    private static void nothingToDo() {
        ScheduleLab lab = new ScheduleLab();
        isNever("no code", lab, 0);
        isNever("no code", lab, 1);
        wayIs("no code", lab, 2);
        wayIs("no code", lab, 3);
    }

    private static void refusals() {
        ScheduleLab lab = Programs.lab("9,1");
        for (int what : NO_KINDS) {
            CHECK.due("soonest(" + what + ")", lab.soonest(what), ScheduleLab.REFUSED);
            CHECK.due("step(" + what + ", 0)", lab.step(what, 0), ScheduleLab.REFUSED);
        }
    }

    private static void lowerThreadFirst() {
        wayIs("all the same", Programs.lab("9,1 | 9,1 | 9,1"), 0, 0);
        wayIs("two of three", Programs.lab("9,0 | 9,1 | 9,1"), 0, 1);
        wayIs("DONE", Programs.lab("3,0 3,0 | 3,0 | 3,0 3,0"), 2, 0, 0, 1, 2, 2);
        wayIs("early bird", Programs.lab("0,0 9,0 | 3,0 | 3,0"), 0, 1, 0, 0);
        wayIs("the last must come first", Programs.lab("0,0 9,1 | | 3,0"), 3, 2, 0, 0);
        wayIs("two locks", Programs.lab("7,0 7,1 | 7,1 7,0"), 1, 0, 0);
    }

    private static void shorterBeforeLower() {
        wayIs("one step of thread 2", Programs.lab("4,1 9,0 | 4,1 9,0 | 9,1"), 0, 2);
        wayIs("two of thread 1", Programs.lab("5,1 5,1 9,0 | 5,1 9,0 | 5,1 9,0"), 0, 1, 1);
    }

    private static void fourGoals() {
        ScheduleLab lab = Programs.lab("7,0 3,0 8,0 | 0,0 9,1 7,0 | 7,0");
        wayIs("BAD", lab, 0, 1, 1);
        wayIs("STUCK", lab, 1, 1, 1, 1);
        isNever("two take the lock for good", lab, 2);
        isNever("two take the lock for good", lab, 3);
        ScheduleLab good = Programs.lab("0,0 9,1 | 3,0");
        wayIs("BAD", good, 0, 0, 0);
        isNever("no lock", good, 1);
        wayIs("DONE", good, 2, 0, 0, 1);
        wayIs("DONE and not BAD", good, 3, 1, 0, 0);
        ScheduleLab bad = Programs.lab("9,3 | 3,0");
        wayIs("DONE", bad, 2, 0, 1);
        isNever("always BAD", bad, 3);
    }

    private static void fromThePresent() {
        ScheduleLab lab = Programs.lab("0,0 9,1 | 3,0 3,1");
        Programs.go(lab, 1);
        isNever("the LOAD comes too late to fail", lab, 0);
        wayIs("after one step", lab, 3, 0, 0, 1);
        lab.back();
        Programs.go(lab, 0, 0);
        wayIs("BAD already", lab, 0);
        wayIs("two steps left", lab, 2, 1, 1);
        isNever("BAD for ever", lab, 3);
        Programs.go(lab, 1, 1);
        wayIs("DONE already", lab, 2);
    }

    /** What was found for a longer code is not to be seen again. */
    private static void ofAnotherCode() {
        ScheduleLab lab = Programs.lab("9,1");
        wayIs("a CHECK", lab, 0, 0);
        lab.clear(0);
        isNever("no CHECK", lab, 0);
    }

    private static void overSkips() {
        ScheduleLab lab = Programs.lab("0,0 6,3 3,1 3,1 3,1 | 3,0 3,0");
        wayIs("a SKIP shortens", lab, 2, 0, 0, 1, 1);
        ScheduleLab late = Programs.lab("3,0 | 0,0 6,3 3,1 3,1 3,1");
        wayIs("the lower thread must be later", late, 2, 1, 0, 1);
    }

    private static void overWaits() {
        ScheduleLab lab = Programs.lab("7,0 10,0 8,0 | 7,0 11,0 8,0");
        wayIs("the notified goes on", lab, 2, 0, 0, 1, 1, 1, 0, 0);
        wayIs("notified too early", lab, 1, 1, 1, 1, 0, 0);
    }

    private static void tooManyStates() {
        ScheduleLab lab = Programs.lab(Programs.TOO_MANY);
        for (int what = 0; what < 4; what++) {
            CHECK.due("soonest(" + what + ")", lab.soonest(what), ScheduleLab.MANY);
            CHECK.due("step(" + what + ", 0)", lab.step(what, 0), ScheduleLab.MANY);
        }
    }
}
