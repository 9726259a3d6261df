/** Promises 5 to 7 with ordinary inputs: go, back, now, and what instructions do together. */
public final class PresentTest {
    private static final Check CHECK = new Check("PresentTest");

    public static void main(String[] args) {
        goCounts();
        backTakesBack();
        backOverAWait();
        variables();
        skips();
        locks();
        waits();
        notifiesAllOfOneLock();
        CHECK.end();
    }

    private static void goCounts() {
        ScheduleLab lab = Programs.lab("3,0 3,0 | 3,1 | 3,2 3,2 3,2");
        CHECK.due("ready at first", lab.now(16), 7);
        int[] row = {2, 0, 1, 2, 0, 2};
        for (int n = 0; n < row.length; n++) {
            CHECK.due("go number " + n, lab.go(row[n]), n + 1);
        }
        CHECK.isNow("at the end", lab, 2, 1, 3, 0, 0, 0, 0, 5, 5, 5, -1, -1, 0, 0, 0, 0, 0);
    }

    private static void backTakesBack() {
        ScheduleLab lab = Programs.lab("4,5 1,0 | 3,0");
        Programs.go(lab, 0, 1, 0);
        CHECK.isNow("before back", lab, 5, 0, 0, 0, 5, 0, 0, 5, 5, 5);
        CHECK.due("back to two", lab.back(), 2);
        CHECK.isNow("two steps", lab, 1, 0, 0, 0, 5, 0, 0, 1, 5, 5);
        CHECK.due("back to one", lab.back(), 1);
        CHECK.isNow("one step", lab, 0, 0, 0, 0, 5, 0, 0, 1, 0, 5);
        CHECK.due("another step from there", lab.go(0), 2);
        CHECK.due("what it stores", lab.now(0), 5);
        CHECK.due("back to one again", lab.back(), 1);
        CHECK.due("back to none", lab.back(), 0);
        CHECK.isNow("no step", lab, 0, 0, 0, 0, 0, 0, 0, 0, 0, 5);
    }

    private static void backOverAWait() {
        ScheduleLab lab = Programs.lab("7,1 10,1 3,0 | 11,1");
        Programs.go(lab, 0, 0, 1, 0);
        CHECK.isNow("behind the WAIT", lab, 0, 0, 0, 0, 0, 0, 0, 2, 5, 5, -1, 0, 0, 0, 0, 0, 1);
        CHECK.due("back to the notified", lab.back(), 3);
        CHECK.isNow("notified", lab, 0, 0, 0, 0, 0, 0, 0, 1, 5, 5, -1, -1, 2, 0, 0, 0, 1);
        CHECK.due("back to the waiting", lab.back(), 2);
        CHECK.isNow("waiting", lab, 0, 0, 0, 0, 0, 0, 0, 1, 0, 5, -1, -1, 1, 0, 0, 0, 2);
        CHECK.due("back to the lock's taker", lab.back(), 1);
        CHECK.isNow("with the lock", lab, 0, 0, 0, 0, 0, 0, 0, 1, 0, 5, -1, 0, 0, 0, 0, 0, 3);
    }

    private static void variables() {
        ScheduleLab lab = Programs.lab("4,6 1,3 4,1 2,3 1,0 | 0,3 1,2 | 3,1 3,3");
        Programs.go(lab, 0, 0);
        CHECK.isNow("STORE", lab, 0, 0, 0, 6, 6, 0, 0);
        Programs.go(lab, 1);
        CHECK.isNow("LOAD", lab, 0, 0, 0, 6, 6, 6, 0);
        Programs.go(lab, 0, 0);
        CHECK.isNow("SWAP", lab, 0, 0, 0, 1, 6, 6, 0);
        Programs.go(lab, 0, 1);
        CHECK.isNow("STORE of both", lab, 6, 0, 6, 1, 6, 6, 0);
        Programs.go(lab, 2, 2);
        CHECK.isNow("INC", lab, 6, 1, 6, 2, 6, 6, 0, 5, 5, 5);
    }

    private static void skips() {
        ScheduleLab lab = Programs.lab("6,1 3,0 6,3 3,0 | 6,3 3,1 3,1 3,1 3,2 | 4,1 6,3 3,3 6,2");
        Programs.go(lab, 0);
        CHECK.due("SKIP 1", lab.now(7), 2);
        Programs.go(lab, 0);
        CHECK.due("SKIP 3 with one left", lab.now(7), 5);
        Programs.go(lab, 1);
        CHECK.due("SKIP 3 with four left", lab.now(8), 4);
        Programs.go(lab, 2, 2);
        CHECK.due("SKIP with an ACC", lab.now(9), 2);
        Programs.go(lab, 2);
        CHECK.due("SKIP at the end is ready", lab.now(16), 6);
        Programs.go(lab, 2, 1);
        CHECK.isNow("after the skips", lab, 0, 0, 1, 1, 0, 0, 1, 5, 5, 5);
    }

    private static void locks() {
        ScheduleLab lab = Programs.lab("7,0 8,0 8,0 | 8,0 7,1 7,0 8,1 | 7,1");
        Programs.go(lab, 0, 1);
        CHECK.isNow("UNLOCK of another's", lab, 0, 0, 0, 0, 0, 0, 0, 1, 1, 0, 0, -1, 0, 0, 0, 0, 7);
        Programs.go(lab, 1);
        CHECK.isNow("both taken", lab, 0, 0, 0, 0, 0, 0, 0, 1, 2, 0, 0, 1, 0, 0, 0, 0, 1);
        Programs.go(lab, 0);
        CHECK.isNow("UNLOCK", lab, 0, 0, 0, 0, 0, 0, 0, 2, 2, 0, -1, 1, 0, 0, 0, 0, 3);
        Programs.go(lab, 0, 1);
        CHECK.isNow("taken by 1", lab, 0, 0, 0, 0, 0, 0, 0, 5, 3, 0, 1, 1, 0, 0, 0, 0, 2);
        Programs.go(lab, 1, 2);
        CHECK.isNow("taken by 2", lab, 0, 0, 0, 0, 0, 0, 0, 5, 5, 5, 1, 2, 0, 0, 0, 0, 0);
    }

    private static void waits() {
        ScheduleLab lab = Programs.lab("7,0 10,0 3,0 | 11,0 7,0 11,0 11,0 8,0 | 11,1");
        Programs.go(lab, 1, 0);
        CHECK.due("NOTIFY before is lost", lab.go(0), 3);
        CHECK.isNow("waits", lab, 0, 0, 0, 0, 0, 0, 0, 1, 1, 0, -1, -1, 1, 0, 0, 0, 6);
        Programs.go(lab, 2);
        CHECK.due("NOTIFY of the other lock", lab.now(12), 1);
        Programs.go(lab, 1);
        CHECK.due("a free lock does not end it", lab.now(16), 2);
        Programs.go(lab, 1);
        CHECK.isNow("notified", lab, 0, 0, 0, 0, 0, 0, 0, 1, 3, 5, 1, -1, 2, 0, 0, 0, 2);
        CHECK.refused("not ready while it is taken", lab.go(0));
        Programs.go(lab, 1);
        CHECK.due("notified twice", lab.now(12), 2);
        Programs.go(lab, 1);
        CHECK.isNow("free again", lab, 0, 0, 0, 0, 0, 0, 0, 1, 5, 5, -1, -1, 2, 0, 0, 0, 1);
        CHECK.due("the further step", lab.go(0), 9);
        CHECK.isNow("goes on", lab, 0, 0, 0, 0, 0, 0, 0, 2, 5, 5, 0, -1, 0, 0, 0, 0, 1);
    }

    private static void notifiesAllOfOneLock() {
        ScheduleLab lab = Programs.lab("7,0 10,0 | 7,0 10,0 | 11,1 11,0");
        Programs.go(lab, 0, 0, 1, 1, 2);
        CHECK.isNow("none", lab, 0, 0, 0, 0, 0, 0, 0, 1, 1, 1, -1, -1, 1, 1, 0, 0, 4);
        Programs.go(lab, 2);
        CHECK.isNow("both", lab, 0, 0, 0, 0, 0, 0, 0, 1, 1, 5, -1, -1, 2, 2, 0, 0, 3);
        Programs.go(lab, 1);
        CHECK.isNow("one has it", lab, 0, 0, 0, 0, 0, 0, 0, 1, 5, 5, 1, -1, 2, 0, 0, 0, 0);
    }
}
