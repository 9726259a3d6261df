/** The edges of promises 5 to 7: refused steps, none to be taken back, and what 'now' can tell. */
public final class PresentEdgesTest {
    private static final Check CHECK = new Check("PresentEdgesTest");
    /** Two threads wait three and four times for the NOTIFYs of the one between. */
    private static final String LONG_RUN =
        "7,0 10,0 10,0 10,0 8,0 | 11,0 11,0 11,0 11,0 11,0 | 7,0 10,0 10,0 10,0 10,0";

    public static void main(String[] args) {
        goOfNoThread();
        goBehindTheCode();
        goAtATakenLock();
        goWhileItWaits();
        goIfNotifiedAndTaken();
        goAndBackOfALongRun();
        backOfNone();
        backAfterARefusedGo();
        backOfTheOnlyStep();
        backAfterAnotherCode();
        nowOfNothing();
        nowOfVariablesAndAccs();
        nowOfPlaces();
        nowOfTakers();
        nowOfWaits();
        nowOfReadyThreads();
        lastOf512Calls();
        CHECK.end();
    }

    /** The threads do the row on the first object; then the last one is refused, without a trace. */
    private static void goIsRefused(String when, String text, int refused, int... row) {
        ScheduleLab lab = Programs.lab(text);
        ScheduleLab twin = Programs.lab(text);
        Programs.go(lab, row);
        Programs.go(twin, row);
        CHECK.refused(when + ": go(" + refused + ")", lab.go(refused));
        CHECK.refused(when + ": go(" + refused + ") again", lab.go(refused));
        Twins.areSame(CHECK, when, lab, twin);
    }

    private static void goOfNoThread() {
        CHECK.due("go(0)", Programs.lab("3,0 | | 3,0").go(0), 1);
        CHECK.due("go(2)", Programs.lab("3,0 | | 3,0").go(2), 1);
        ScheduleLab lab = Programs.busy();
        for (int thread : Programs.outside(0, 2)) {
            CHECK.refused("go(" + thread + ")", lab.go(thread));
            CHECK.refused("new go(" + thread + ")", new ScheduleLab().go(thread));
        }
        Twins.areSame(CHECK, "go of no thread", lab, Programs.busy());
    }

    private static void goBehindTheCode() {
        goIsRefused("no code", "3,0 | | 3,0", 1);
        goIsRefused("behind a code of one", "3,0 | | 3,0", 2, 2);
        goIsRefused("behind a code of five", "3,0 3,0 3,0 3,0 3,0 | 3,0", 0, 0, 0, 0, 0, 0);
    }

    private static void goAtATakenLock() {
        goIsRefused("taken by itself", "7,1 7,1 | 3,0", 0, 0);
        goIsRefused("taken by another", "7,1 8,1 | 3,0 7,1", 1, 1, 0);
    }

    private static void goWhileItWaits() {
        goIsRefused("waits", "7,0 10,0 | 11,0 3,0", 0, 0, 0);
        goIsRefused("waits, and it is taken", "7,0 10,0 | 7,0 11,0 3,0", 0, 0, 0, 1);
    }

    private static void goIfNotifiedAndTaken() {
        goIsRefused("notified", "7,0 10,0 | 7,0 11,0 8,0", 0, 0, 0, 1, 1);
    }

    private static void goAndBackOfALongRun() {
        ScheduleLab lab = Programs.lab(LONG_RUN);
        int[] row = {0, 0, 2, 2, 1, 0, 0, 2, 2, 1, 0, 0, 2, 2, 1, 0, 0, 2, 2, 1, 2, 1};
        for (int n = 0; n < row.length; n++) {
            CHECK.due("step " + n, lab.go(row[n]), n + 1);
        }
        CHECK.isNow("at its end", lab, 0, 0, 0, 0, 0, 0, 0, 5, 5, 5, 2, -1, 0, 0, 0, 0, 0);
        for (int n = row.length - 1; n >= 0; n--) {
            CHECK.due("back to " + n, lab.back(), n);
        }
        CHECK.due("all runs to the end are as long", lab.soonest(2), row.length);
        Twins.areSame(CHECK, "there and back", lab, Programs.lab(LONG_RUN));
    }

    private static void backOfNone() {
        ScheduleLab lab = Programs.lab("3,0 3,0");
        CHECK.refused("back of none", lab.back());
        CHECK.refused("back of none again", lab.back());
        Twins.areSame(CHECK, "back of none", lab, Programs.lab("3,0 3,0"));
        CHECK.refused("new: back()", new ScheduleLab().back());
    }

    private static void backAfterARefusedGo() {
        ScheduleLab lab = Programs.lab("3,0");
        lab.go(1);
        CHECK.refused("a refused go is no step", lab.back());
        Programs.go(lab, 0, 0);
        CHECK.due("nor a second one", lab.back(), 0);
    }

    private static void backOfTheOnlyStep() {
        ScheduleLab lab = Programs.lab("9,1 3,0");
        Programs.go(lab, 0);
        CHECK.due("none is left", lab.back(), 0);
        CHECK.isNow("BAD no more", lab, 0, 0, 0, 0, 0, 0, 0, 0, 5, 5, -1, -1, 0, 0, 0, 0, 1);
        CHECK.refused("no other one", lab.back());
        CHECK.due("the first step again", lab.go(0), 1);
    }

    private static void backAfterAnotherCode() {
        ScheduleLab added = Programs.busy();
        added.add(2, Programs.INC, 0);
        CHECK.refused("back after add", added.back());
        ScheduleLab cleared = Programs.busy();
        cleared.clear(2);
        CHECK.refused("back after clear", cleared.back());
        ScheduleLab changed = Programs.busy();
        changed.change(2, 3, Programs.INC, 0);
        CHECK.refused("back after change", changed.back());
    }

    private static void nowOfNothing() {
        ScheduleLab lab = Programs.busy();
        for (int what : Programs.outside(0, 16)) {
            CHECK.refused("now(" + what + ")", lab.now(what));
            CHECK.refused("new now(" + what + ")", new ScheduleLab().now(what));
        }
        CHECK.isNow("0 to 16", lab, Programs.BUSY);
        Twins.areSame(CHECK, "now of nothing", lab, Programs.busy());
    }

    /** Each alone is 7, so that none stands for its neighbour. */
    private static void nowOfVariablesAndAccs() {
        for (int v = 0; v < 4; v++) {
            ScheduleLab lab = Programs.lab("4,7 2," + v);
            Programs.go(lab, 0, 0);
            for (int what = 0; what < 7; what++) {
                CHECK.due("7 in variable " + v + ": now(" + what + ")", lab.now(what), what == v ? 7 : 0);
            }
        }
        for (int t = 0; t < 3; t++) {
            ScheduleLab lab = Programs.lab(Programs.only(t, "4,7"));
            Programs.go(lab, t);
            for (int what = 0; what < 7; what++) {
                CHECK.due("7 in ACC " + t + ": now(" + what + ")", lab.now(what), what == 4 + t ? 7 : 0);
            }
        }
    }

    private static void nowOfPlaces() {
        String five = "4,0 4,0 4,0 4,0 4,0";
        for (int t = 0; t < 3; t++) {
            ScheduleLab lab = Programs.lab(five + " | " + five + " | " + five);
            for (int k = 0; k <= 5; k++) {
                for (int u = 0; u < 3; u++) {
                    CHECK.due("thread " + u + " at", lab.now(7 + u), u == t ? k : 0);
                }
                lab.go(t);
            }
        }
    }

    private static void nowOfTakers() {
        for (int t = 0; t < 3; t++) {
            int u = (t + 1) % 3;
            ScheduleLab lab = Programs.lab("7,0 8,0 7,1 | 7,0 8,0 7,1 | 7,0 8,0 7,1");
            CHECK.due("nobody at first", lab.now(10), -1);
            Programs.go(lab, t);
            CHECK.due("lock 0", lab.now(10), t);
            Programs.go(lab, t, t, u);
            CHECK.due("lock 1", lab.now(11), t);
            CHECK.due("lock 0 is another's", lab.now(10), u);
            Programs.go(lab, u);
            CHECK.due("nobody again", lab.now(10), -1);
        }
    }

    private static void nowOfWaits() {
        ScheduleLab lab = Programs.lab("7,0 10,0 | 7,0 10,0 11,0 | 7,0 10,0");
        Programs.go(lab, 0, 0, 2, 2);
        CHECK.isNow("two wait", lab, 0, 0, 0, 0, 0, 0, 0, 1, 0, 1, -1, -1, 1, 0, 1, 0, 2);
        Programs.go(lab, 1, 1);
        CHECK.isNow("all wait", lab, 0, 0, 0, 0, 0, 0, 0, 1, 1, 1, -1, -1, 1, 1, 1, 0, 0);
        CHECK.due("and are STUCK", lab.soonest(1), 0);
    }

    private static void nowOfReadyThreads() {
        for (int threads = 0; threads < 8; threads++) {
            ScheduleLab lab = new ScheduleLab();
            for (int t = 0; t < 3; t++) {
                if ((threads >> t & 1) != 0) {
                    lab.add(t, Programs.INC, t);
                }
            }
            CHECK.due("with a code: " + threads, lab.now(16), threads);
        }
    }

    /** "An object is used for at most 512 calls": the last one is answered as the first one is. */
    private static void lastOf512Calls() {
        ScheduleLab lab = new ScheduleLab();
        lab.add(0, Programs.INC, 0);
        lab.add(1, Programs.INC, 0);
        for (int call = 3; call < 510; call += 2) {
            CHECK.due("call " + call, lab.go(0), 1);
            CHECK.due("call " + (call + 1), lab.back(), 0);
        }
        CHECK.due("call 511", lab.go(0), 1);
        CHECK.due("call 512", lab.kinds(), 1);
    }
}
