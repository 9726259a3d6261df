/** The edges of locks in the document's Terms: who has taken one, who waits, and who is READY. */
public final class LocksEdgesTest {
    private static final Check CHECK = new Check("LocksEdgesTest");

    public static void main(String[] args) {
        lockOfEachByEach();
        unlockOfAFreeLock();
        unlockOfAnothersLock();
        unlockOfTheOtherLock();
        unlockTwice();
        waitAtAFreeLock();
        waitAtAnothersLock();
        waitWithTheOtherLock();
        waitAfterUnlock();
        waitOfEachAtEach();
        waitAtTheEndOfACode();
        waitAfterWait();
        notifyOfNobody();
        notifyOfAll();
        notifyOfTheOtherLock();
        notifyOfTheNotified();
        notifyOfThoseNotYetWaiting();
        readyUntilItHasEnded();
        notReadyWhileItWaits();
        notReadyAtATakenLock();
        readyAtTheOtherLock();
        notReadyIfNotifiedAndTaken();
        readyAtATakenLockWithoutLock();
        CHECK.end();
    }

    private static void isReady(String when, ScheduleLab lab, int threads) {
        CHECK.due(when + ": now(16)", lab.now(16), threads);
        for (int t = 0; t < 3; t++) {
            boolean ready = (threads >> t & 1) != 0;
            CHECK.due(when + ": go(" + t + ")", lab.go(t) != ScheduleLab.REFUSED, ready);
            if (ready) {
                lab.back();
            }
        }
    }

    private static void lockOfEachByEach() {
        for (int t = 0; t < 3; t++) {
            for (int a = 0; a < 2; a++) {
                ScheduleLab lab = Programs.lab(Programs.only(t, "7," + a + " 8," + a));
                CHECK.due("free at first", lab.now(10 + a), -1);
                Programs.go(lab, t);
                CHECK.due("LOCK " + a + " by " + t, lab.now(10 + a), t);
                CHECK.due("LOCK " + a + " by " + t + ", the other", lab.now(11 - a), -1);
                Programs.go(lab, t);
                CHECK.due("UNLOCK " + a + " by " + t, lab.now(10 + a), -1);
            }
        }
    }

    private static void unlockOfAFreeLock() {
        ScheduleLab lab = Programs.lab("8,0 8,1 3,0");
        CHECK.due("UNLOCK 0", lab.go(0), 1);
        CHECK.due("UNLOCK 1", lab.go(0), 2);
        CHECK.isNow("two free ones", lab, 0, 0, 0, 0, 0, 0, 0, 2, 5, 5, -1, -1, 0, 0, 0, 0, 1);
    }

    private static void unlockOfAnothersLock() {
        for (int a = 0; a < 2; a++) {
            ScheduleLab lab = Programs.lab("8," + a + " 3,0 | 7," + a + " | 8," + a + " 3,0");
            Programs.go(lab, 1, 0, 2);
            CHECK.due("UNLOCK " + a + " of another", lab.now(10 + a), 1);
            CHECK.due("the lower goes on", lab.now(7), 1);
            CHECK.due("the higher goes on", lab.now(9), 1);
        }
    }

    private static void unlockOfTheOtherLock() {
        ScheduleLab lab = Programs.lab("7,0 8,1 3,0");
        Programs.go(lab, 0, 0);
        CHECK.isNow("UNLOCK 1 with 0", lab, 0, 0, 0, 0, 0, 0, 0, 2, 5, 5, 0, -1, 0, 0, 0, 0, 1);
    }

    private static void unlockTwice() {
        ScheduleLab lab = Programs.lab("7,1 8,1 8,1 | 7,1");
        Programs.go(lab, 0, 0, 1);
        CHECK.due("taken by another between", lab.now(11), 1);
        Programs.go(lab, 0);
        CHECK.isNow("UNLOCK again", lab, 0, 0, 0, 0, 0, 0, 0, 5, 5, 5, -1, 1, 0, 0, 0, 0, 0);
    }

    private static void waitAtAFreeLock() {
        ScheduleLab lab = Programs.lab("10,0 10,1 3,0");
        CHECK.due("WAIT 0", lab.go(0), 1);
        CHECK.due("WAIT 1", lab.go(0), 2);
        CHECK.isNow("two free ones", lab, 0, 0, 0, 0, 0, 0, 0, 2, 5, 5, -1, -1, 0, 0, 0, 0, 1);
    }

    private static void waitAtAnothersLock() {
        for (int a = 0; a < 2; a++) {
            ScheduleLab lab = Programs.lab("10," + a + " 3,0 | 7," + a + " | 10," + a);
            Programs.go(lab, 1, 0, 2);
            CHECK.due("WAIT " + a + " of another", lab.now(10 + a), 1);
            CHECK.due("the lower goes on", lab.now(7), 1);
            CHECK.due("the lower does not wait", lab.now(12), 0);
            CHECK.due("the higher goes on", lab.now(9), 5);
            CHECK.due("the higher does not wait", lab.now(14), 0);
        }
    }

    private static void waitWithTheOtherLock() {
        ScheduleLab lab = Programs.lab("7,0 10,1 3,0");
        Programs.go(lab, 0, 0);
        CHECK.isNow("WAIT 1 with 0", lab, 0, 0, 0, 0, 0, 0, 0, 2, 5, 5, 0, -1, 0, 0, 0, 0, 1);
    }

    private static void waitAfterUnlock() {
        ScheduleLab lab = Programs.lab("7,0 8,0 10,0 3,0");
        Programs.go(lab, 0, 0, 0);
        CHECK.isNow("given back before", lab, 0, 0, 0, 0, 0, 0, 0, 3, 5, 5, -1, -1, 0, 0, 0, 0, 1);
    }

    private static void waitOfEachAtEach() {
        for (int t = 0; t < 3; t++) {
            for (int a = 0; a < 2; a++) {
                int u = (t + 1) % 3;
                ScheduleLab lab = Programs.lab(Programs.only(t, "4,7 7," + a + " 10," + a + " 3,0"));
                lab.add(u, Programs.NOTIFY, a);
                Programs.go(lab, t, t, t);
                waitIs("waits", lab, t, a, 1, -1, 2);
                Programs.go(lab, u);
                waitIs("notified", lab, t, a, 2, -1, 2);
                CHECK.due("the further step", lab.go(t), 5);
                waitIs("goes on", lab, t, a, 0, t, 3);
            }
        }
    }

    private static void waitIs(String when, ScheduleLab lab, int t, int a, int waits, int taker, int at) {
        String what = when + " at WAIT " + a + " of thread " + t;
        CHECK.due(what + ": does it wait", lab.now(12 + t), waits);
        CHECK.due(what + ": who has the lock", lab.now(10 + a), taker);
        CHECK.due(what + ": the other lock", lab.now(11 - a), -1);
        CHECK.due(what + ": where it is", lab.now(7 + t), at);
    }

    private static void waitAtTheEndOfACode() {
        ScheduleLab lab = Programs.lab("3,0 3,0 3,0 7,0 10,0 | 11,0");
        Programs.go(lab, 0, 0, 0, 0, 0);
        CHECK.isNow("at its end", lab, 3, 0, 0, 0, 0, 0, 0, 4, 0, 5, -1, -1, 1, 0, 0, 0, 2);
        Programs.go(lab, 1, 0);
        CHECK.isNow("behind it", lab, 3, 0, 0, 0, 0, 0, 0, 5, 5, 5, 0, -1, 0, 0, 0, 0, 0);
    }

    private static void waitAfterWait() {
        ScheduleLab lab = Programs.lab("7,0 10,0 10,0 | 11,0 11,0");
        Programs.go(lab, 0, 0, 1, 0);
        CHECK.isNow("at the next", lab, 0, 0, 0, 0, 0, 0, 0, 2, 1, 5, 0, -1, 0, 0, 0, 0, 3);
        Programs.go(lab, 0);
        CHECK.isNow("waits again", lab, 0, 0, 0, 0, 0, 0, 0, 2, 1, 5, -1, -1, 1, 0, 0, 0, 2);
    }

    private static void notifyOfNobody() {
        ScheduleLab lab = Programs.lab("7,0 10,0 | 11,0 11,1 3,0");
        Programs.go(lab, 1, 1);
        CHECK.isNow("nobody waits", lab, 0, 0, 0, 0, 0, 0, 0, 0, 2, 5, -1, -1, 0, 0, 0, 0, 3);
        Programs.go(lab, 0, 0);
        CHECK.due("it was too early", lab.now(12), 1);
    }

    private static void notifyOfAll() {
        ScheduleLab lab = Programs.lab("7,1 10,1 | 11,1 | 7,1 10,1");
        Programs.go(lab, 0, 0, 2, 2, 1);
        CHECK.isNow("both", lab, 0, 0, 0, 0, 0, 0, 0, 1, 5, 1, -1, -1, 2, 0, 2, 0, 5);
    }

    private static void notifyOfTheOtherLock() {
        ScheduleLab lab = Programs.lab("7,0 10,0 | 7,1 10,1 | 11,0 11,1");
        Programs.go(lab, 0, 0, 1, 1, 2);
        CHECK.isNow("lock 0", lab, 0, 0, 0, 0, 0, 0, 0, 1, 1, 1, -1, -1, 2, 1, 0, 0, 5);
        Programs.go(lab, 2);
        CHECK.isNow("lock 1", lab, 0, 0, 0, 0, 0, 0, 0, 1, 1, 5, -1, -1, 2, 2, 0, 0, 3);
    }

    private static void notifyOfTheNotified() {
        ScheduleLab lab = Programs.lab("7,0 10,0 | 11,0 11,0");
        Programs.go(lab, 0, 0, 1, 1);
        CHECK.isNow("twice", lab, 0, 0, 0, 0, 0, 0, 0, 1, 5, 5, -1, -1, 2, 0, 0, 0, 1);
        Programs.go(lab, 0);
        CHECK.due("it goes on once", lab.now(12), 0);
    }

    private static void notifyOfThoseNotYetWaiting() {
        ScheduleLab lab = Programs.lab("7,0 10,0 | 7,0 | 11,0 11,0");
        Programs.go(lab, 0, 2);
        CHECK.isNow("at a WAIT, at a LOCK", lab, 0, 0, 0, 0, 0, 0, 0, 1, 0, 1, 0, -1, 0, 0, 0, 0, 5);
        Programs.go(lab, 0);
        CHECK.due("the WAIT comes later", lab.now(12), 1);
    }

    private static void readyUntilItHasEnded() {
        isReady("no code", new ScheduleLab(), 0);
        ScheduleLab lab = Programs.lab("3,0 | 3,0 | 3,0");
        isReady("at first", lab, 7);
        Programs.go(lab, 1);
        isReady("one has ended", lab, 5);
        Programs.go(lab, 0, 2);
        isReady("all have ended", lab, 0);
    }

    private static void notReadyWhileItWaits() {
        ScheduleLab lab = Programs.lab("7,0 10,0 | 7,0 8,0 | 11,0");
        Programs.go(lab, 0, 0);
        isReady("the lock is free", lab, 6);
        Programs.go(lab, 1);
        isReady("the lock is taken", lab, 6);
        Programs.go(lab, 1);
        isReady("free again", lab, 4);
    }

    /** "by whom ever": by itself, by another, by one that has ended. */
    private static void notReadyAtATakenLock() {
        for (int a = 0; a < 2; a++) {
            ScheduleLab itself = Programs.lab("7," + a + " 7," + a);
            isReady("free", itself, 1);
            Programs.go(itself, 0);
            isReady("taken by itself", itself, 0);
            ScheduleLab another = Programs.lab("7," + a + " | 7," + a + " 8," + a + " | 7," + a);
            isReady("free for all", another, 7);
            Programs.go(another, 1);
            isReady("taken by another", another, 2);
            Programs.go(another, 1);
            isReady("free again", another, 5);
            Programs.go(another, 2);
            isReady("taken by one that has ended", another, 0);
        }
    }

    private static void readyAtTheOtherLock() {
        ScheduleLab lab = Programs.lab("7,0 7,1 | 7,1 7,0 | 7,1");
        Programs.go(lab, 0);
        isReady("lock 1 is free", lab, 7);
        Programs.go(lab, 2);
        isReady("both are taken", lab, 0);
    }

    private static void notReadyIfNotifiedAndTaken() {
        ScheduleLab lab = Programs.lab("7,0 10,0 | 11,0 7,1 7,0 8,0");
        Programs.go(lab, 0, 0, 1);
        isReady("notified, and free", lab, 3);
        Programs.go(lab, 1);
        isReady("the other lock is taken", lab, 3);
        Programs.go(lab, 1);
        isReady("taken", lab, 2);
        Programs.go(lab, 1);
        isReady("free again", lab, 1);
    }

    /** Only a LOCK and a thread that is notified need the lock to be free. */
    private static void readyAtATakenLockWithoutLock() {
        for (int op : new int[] {Programs.UNLOCK, Programs.WAIT, Programs.NOTIFY}) {
            ScheduleLab lab = Programs.lab("7,0 " + op + ",0 | " + op + ",0 | " + op + ",0");
            Programs.go(lab, 0);
            isReady("op " + op + " of a taken lock", lab, 7);
        }
    }
}
