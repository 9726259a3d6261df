/** Promises 5 to 7: go, back, now, and what each instruction does. */
public final class PresentTest {
    private static final Check CHECK = new Check("PresentTest");

    public static void main(String[] args) {
        goCounts();
        goRefuses();
        backTakesBack();
        backOverAWait();
        nowRefuses();
        variables();
        sums();
        skips();
        checks();
        locks();
        waits();
        waitWithoutTheLock();
        notifiesAllOfOneLock();
        endedKeepsItsLock();
        CHECK.end();
    }

    private static void isNow(String when, ScheduleLab lab, int... want) {
        for (int what = 0; what < want.length; what++) {
            CHECK.due(when + ": now(" + what + ")", lab.now(what), want[what]);
        }
    }

    private static void goCounts() {
        ScheduleLab lab = Programs.lab("3,0 3,0 | 3,1 | 3,2 3,2 3,2");
        CHECK.due("ready at first", lab.now(16), 7);
        int[] row = {2, 0, 1, 2, 0, 2};
        for (int n = 0; n < row.length; n++) {
            CHECK.due("go number " + n, lab.go(row[n]), n + 1);
        }
        isNow("at the end", lab, 2, 1, 3, 0, 0, 0, 0, 5, 5, 5, -1, -1, 0, 0, 0, 0, 0);
    }

    private static void goRefuses() {
        ScheduleLab lab = Programs.lab("7,0 7,0 | 7,0 | 3,1");
        int[] noThreads = {-1, 3, Integer.MIN_VALUE, Integer.MAX_VALUE};
        for (int thread : noThreads) {
            CHECK.due("go(" + thread + ")", lab.go(thread), ScheduleLab.REFUSED);
        }
        Programs.go(lab, 0, 2);
        CHECK.due("go at its own lock", lab.go(0), ScheduleLab.REFUSED);
        CHECK.due("go at a lock of another", lab.go(1), ScheduleLab.REFUSED);
        CHECK.due("go behind the code", lab.go(2), ScheduleLab.REFUSED);
        isNow("after refusals", lab, 0, 1, 0, 0, 0, 0, 0, 1, 0, 5, 0, -1, 0, 0, 0, 0, 0);
        CHECK.due("refusals are no steps", lab.back(), 1);
    }

    private static void backTakesBack() {
        ScheduleLab lab = Programs.lab("4,5 1,0 | 3,0");
        CHECK.due("back at first", lab.back(), ScheduleLab.REFUSED);
        Programs.go(lab, 0, 1, 0);
        isNow("before back", lab, 5, 0, 0, 0, 5, 0, 0, 5, 5, 5);
        CHECK.due("back to two", lab.back(), 2);
        isNow("two steps", lab, 1, 0, 0, 0, 5, 0, 0, 1, 5, 5);
        CHECK.due("back to one", lab.back(), 1);
        isNow("one step", lab, 0, 0, 0, 0, 5, 0, 0, 1, 0, 5);
        CHECK.due("another step from there", lab.go(0), 2);
        CHECK.due("what it stores", lab.now(0), 5);
        CHECK.due("back to one again", lab.back(), 1);
        CHECK.due("back to none", lab.back(), 0);
        isNow("no step", lab, 0, 0, 0, 0, 0, 0, 0, 0, 0, 5);
        CHECK.due("back from none", lab.back(), ScheduleLab.REFUSED);
    }

    private static void backOverAWait() {
        ScheduleLab lab = Programs.lab("7,1 10,1 3,0 | 11,1");
        Programs.go(lab, 0, 0, 1, 0);
        isNow("behind the WAIT", lab, 0, 0, 0, 0, 0, 0, 0, 2, 5, 5, -1, 0, 0, 0, 0, 0, 1);
        CHECK.due("back to the notified", lab.back(), 3);
        isNow("notified", lab, 0, 0, 0, 0, 0, 0, 0, 1, 5, 5, -1, -1, 2, 0, 0, 0, 1);
        CHECK.due("back to the waiting", lab.back(), 2);
        isNow("waiting", lab, 0, 0, 0, 0, 0, 0, 0, 1, 0, 5, -1, -1, 1, 0, 0, 0, 2);
        CHECK.due("back to the lock's taker", lab.back(), 1);
        isNow("with the lock", lab, 0, 0, 0, 0, 0, 0, 0, 1, 0, 5, -1, 0, 0, 0, 0, 0, 3);
    }

    private static void nowRefuses() {
        ScheduleLab lab = Programs.lab("3,0");
        int[] others = {-1, 17, 18, Integer.MIN_VALUE, Integer.MAX_VALUE};
        for (int what : others) {
            CHECK.due("now(" + what + ")", lab.now(what), ScheduleLab.REFUSED);
        }
    }

    private static void variables() {
        ScheduleLab lab = Programs.lab("4,6 1,3 4,1 2,3 1,0 | 0,3 1,2 | 3,1 3,3");
        Programs.go(lab, 0, 0);
        isNow("STORE", lab, 0, 0, 0, 6, 6, 0, 0);
        Programs.go(lab, 1);
        isNow("LOAD", lab, 0, 0, 0, 6, 6, 6, 0);
        Programs.go(lab, 0, 0);
        isNow("SWAP", lab, 0, 0, 0, 1, 6, 6, 0);
        Programs.go(lab, 0, 1);
        isNow("STORE of both", lab, 6, 0, 6, 1, 6, 6, 0);
        Programs.go(lab, 2, 2);
        isNow("INC", lab, 6, 1, 6, 2, 6, 6, 0, 5, 5, 5);
    }

    private static void sums() {
        ScheduleLab lab = Programs.lab("3,2 3,2 3,2 3,2 3,2 | 3,2 3,2 3,2 3,2 | 4,7 5,7 5,2 5,0");
        Programs.go(lab, 0, 0, 0, 0, 0, 1, 1);
        CHECK.due("seven INCs", lab.now(2), 7);
        Programs.go(lab, 1);
        CHECK.due("eight INCs", lab.now(2), 0);
        Programs.go(lab, 1);
        CHECK.due("nine INCs", lab.now(2), 1);
        CHECK.due("no other variable", lab.now(3), 0);
        Programs.go(lab, 2, 2);
        CHECK.due("7 + 7", lab.now(6), 6);
        Programs.go(lab, 2);
        CHECK.due("6 + 2", lab.now(6), 0);
        Programs.go(lab, 2);
        CHECK.due("0 + 0", lab.now(6), 0);
    }

    private static void skips() {
        ScheduleLab lab = Programs.lab("6,1 3,0 6,3 3,0 | 6,3 3,1 3,1 3,1 3,2 | 4,1 6,3 3,3 6,2");
        Programs.go(lab, 0);
        CHECK.due("SKIP 1", lab.now(7), 2);
        Programs.go(lab, 0);
        CHECK.due("SKIP 3 with one left", lab.now(7), 5);
        Programs.go(lab, 1);
        CHECK.due("SKIP 3 with four left", lab.now(8), 4);
        Programs.go(lab, 2, 2);
        CHECK.due("SKIP with an ACC", lab.now(9), 2);
        Programs.go(lab, 2);
        CHECK.due("SKIP at the end is ready", lab.now(16), 6);
        Programs.go(lab, 2, 1);
        isNow("after the skips", lab, 0, 0, 1, 1, 0, 0, 1, 5, 5, 5);
        ScheduleLab whole = Programs.lab("6,3 3,0 3,0 3,0");
        CHECK.due("SKIP of all the rest", whole.go(0), 1);
        CHECK.due("it has ended then", whole.now(7), 5);
        CHECK.due("and is not ready", whole.now(16), 0);
    }

    private static void checks() {
        ScheduleLab lab = Programs.lab("9,0 9,3 4,3 9,3 | 4,7 9,7");
        Programs.go(lab, 0, 1, 1);
        CHECK.due("CHECKs that hold", lab.now(15), 0);
        Programs.go(lab, 0);
        CHECK.due("a CHECK that fails", lab.now(15), 1);
        CHECK.due("it hinders nobody", lab.now(16), 1);
        Programs.go(lab, 0, 0);
        CHECK.due("BAD from then on", lab.now(15), 1);
    }

    private static void locks() {
        ScheduleLab lab = Programs.lab("7,0 8,0 8,0 | 8,0 7,1 7,0 8,1 | 7,1");
        Programs.go(lab, 0, 1);
        isNow("UNLOCK of another's", lab, 0, 0, 0, 0, 0, 0, 0, 1, 1, 0, 0, -1, 0, 0, 0, 0, 7);
        Programs.go(lab, 1);
        isNow("both taken", lab, 0, 0, 0, 0, 0, 0, 0, 1, 2, 0, 0, 1, 0, 0, 0, 0, 1);
        Programs.go(lab, 0);
        isNow("UNLOCK", lab, 0, 0, 0, 0, 0, 0, 0, 2, 2, 0, -1, 1, 0, 0, 0, 0, 3);
        Programs.go(lab, 0, 1);
        isNow("taken by 1", lab, 0, 0, 0, 0, 0, 0, 0, 5, 3, 0, 1, 1, 0, 0, 0, 0, 2);
        Programs.go(lab, 1, 2);
        isNow("taken by 2", lab, 0, 0, 0, 0, 0, 0, 0, 5, 5, 5, 1, 2, 0, 0, 0, 0, 0);
    }

    private static void waits() {
        ScheduleLab lab = Programs.lab("7,0 10,0 3,0 | 11,0 7,0 11,0 11,0 8,0 | 11,1");
        Programs.go(lab, 1, 0);
        CHECK.due("NOTIFY before is lost", lab.go(0), 3);
        isNow("waits", lab, 0, 0, 0, 0, 0, 0, 0, 1, 1, 0, -1, -1, 1, 0, 0, 0, 6);
        Programs.go(lab, 2);
        CHECK.due("NOTIFY of the other lock", lab.now(12), 1);
        Programs.go(lab, 1);
        CHECK.due("a free lock does not end it", lab.now(16), 2);
        Programs.go(lab, 1);
        isNow("notified", lab, 0, 0, 0, 0, 0, 0, 0, 1, 3, 5, 1, -1, 2, 0, 0, 0, 2);
        CHECK.due("not ready while it is taken", lab.go(0), ScheduleLab.REFUSED);
        Programs.go(lab, 1);
        CHECK.due("notified twice", lab.now(12), 2);
        Programs.go(lab, 1);
        isNow("free again", lab, 0, 0, 0, 0, 0, 0, 0, 1, 5, 5, -1, -1, 2, 0, 0, 0, 1);
        CHECK.due("the further step", lab.go(0), 9);
        isNow("goes on", lab, 0, 0, 0, 0, 0, 0, 0, 2, 5, 5, 0, -1, 0, 0, 0, 0, 1);
    }

    private static void waitWithoutTheLock() {
        ScheduleLab lab = Programs.lab("7,1 10,0 10,1 | 10,1");
        Programs.go(lab, 0, 0, 1);
        isNow("WAITs passed", lab, 0, 0, 0, 0, 0, 0, 0, 2, 5, 5, -1, 0, 0, 0, 0, 0, 1);
        Programs.go(lab, 0);
        isNow("a WAIT that holds", lab, 0, 0, 0, 0, 0, 0, 0, 2, 5, 5, -1, -1, 1, 0, 0, 0, 0);
    }

    private static void notifiesAllOfOneLock() {
        ScheduleLab lab = Programs.lab("7,0 10,0 | 7,0 10,0 | 11,1 11,0");
        Programs.go(lab, 0, 0, 1, 1, 2);
        isNow("none", lab, 0, 0, 0, 0, 0, 0, 0, 1, 1, 1, -1, -1, 1, 1, 0, 0, 4);
        Programs.go(lab, 2);
        isNow("both", lab, 0, 0, 0, 0, 0, 0, 0, 1, 1, 5, -1, -1, 2, 2, 0, 0, 3);
        Programs.go(lab, 1);
        isNow("one has it", lab, 0, 0, 0, 0, 0, 0, 0, 1, 5, 5, 1, -1, 2, 0, 0, 0, 0);
        ScheduleLab two = Programs.lab("7,0 10,0 | 7,1 10,1 | 11,1");
        Programs.go(two, 0, 0, 1, 1, 2);
        isNow("only lock 1", two, 0, 0, 0, 0, 0, 0, 0, 1, 1, 5, -1, -1, 1, 2, 0, 0, 2);
    }

    private static void endedKeepsItsLock() {
        ScheduleLab lab = Programs.lab("7,1 | 7,1");
        Programs.go(lab, 0);
        isNow("ended with a lock", lab, 0, 0, 0, 0, 0, 0, 0, 5, 0, 5, -1, 0, 0, 0, 0, 0, 0);
    }
}
