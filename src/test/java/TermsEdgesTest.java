/** The edges that the document's Terms name, with a test for each sentence or part of one. */
public final class TermsEdgesTest {
    private static final Check CHECK = new Check("TermsEdgesTest");

    public static void main(String[] args) {
        firstState();
        codeOfOneToFive();
        variablesHoldZeroToSeven();
        accsHoldZeroToSeven();
        swapOfLeastAndGreatest();
        numbersOfOps();
        numbersOfInstructions();
        skipAsFarAsThereAreAny();
        skipOnlyIfAccIsZero();
        passedOverAreNotDone();
        checkOfEachNumber();
        badFromThenOn();
        doneOnlyIfAllHaveEnded();
        stuckWithoutAReadyThread();
        twoStepsTouch();
        CHECK.end();
    }

    private static void firstState() {
        ScheduleLab lab = Programs.lab("3,0 3,0 3,0 3,0 3,0 | 3,0");
        CHECK.isNow("at first", lab, 0, 0, 0, 0, 0, 0, 0, 0, 0, 5, -1, -1, 0, 0, 0, 0, 3);
    }

    /** A thread is at the first instruction at first, at the last one, then behind its code. */
    private static void codeOfOneToFive() {
        for (int t = 0; t < 3; t++) {
            for (int length = 1; length <= 5; length++) {
                ScheduleLab lab = Programs.lab(Programs.only(t, "5,1 ".repeat(length)));
                String when = "code of " + length + " of thread " + t;
                for (int k = 0; k < length; k++) {
                    CHECK.due(when + ": at", lab.now(7 + t), k);
                    CHECK.due(when + ": ready", lab.now(16), 1 << t);
                    CHECK.due(when + ": go", lab.go(t), k + 1);
                }
                CHECK.due(when + ": behind it", lab.now(7 + t), 5);
                CHECK.due(when + ": all done", lab.now(4 + t), length);
                CHECK.due(when + ": has ended", lab.now(16), 0);
            }
        }
    }

    /** From 6 a variable grows to 7, then to 0, with all its neighbours at 0, and with all at 7. */
    private static void variablesHoldZeroToSeven() {
        for (int v = 0; v < 4; v++) {
            ScheduleLab lab = Programs.lab("4,7 1,0 1,1 1,2 1,3 | 4,6 1," + v + (" 3," + v).repeat(3));
            growsPastSeven("among 7s, variable " + v, lab, v, 7, new int[] {0, 0, 0, 0, 0, 1, 1});
            ScheduleLab alone = Programs.lab("| 4,6 1," + v + (" 3," + v).repeat(3));
            growsPastSeven("among 0s, variable " + v, alone, v, 0, new int[] {1, 1});
        }
    }

    private static void growsPastSeven(String when, ScheduleLab lab, int v, int others, int[] row) {
        int[] want = {6, 7, 0, 1};
        Programs.go(lab, row);
        for (int n = 0; n < want.length; n++) {
            for (int other = 0; other < 4; other++) {
                CHECK.due(when + ", INC " + n + ": now(" + other + ")", lab.now(other),
                    other == v ? want[n] : others);
            }
            CHECK.due(when + ": ACC 0", lab.now(4), others);
            CHECK.due(when + ": ACC 1", lab.now(5), 6);
            Programs.go(lab, 1);
        }
    }

    /** All sums of two numbers, for each thread, the others' ACCs being 7. */
    private static void accsHoldZeroToSeven() {
        for (int sum = 0; sum < 3 * 64; sum++) {
            int t = sum / 64;
            int acc = sum / 8 % 8;
            int a = sum % 8;
            ScheduleLab lab = new ScheduleLab();
            for (int u = 0; u < 3; u++) {
                lab.add(u, Programs.SET, u == t ? acc : 7);
                lab.add(u, Programs.ADD, u == t ? a : 0);
            }
            Programs.go(lab, 0, 0, 1, 1, 2, 2);
            for (int u = 0; u < 3; u++) {
                String call = acc + " + " + a + " of thread " + t + ": now(" + (4 + u) + ")";
                CHECK.due(call, lab.now(4 + u), u == t ? (acc + a) % 8 : 7);
            }
        }
    }

    private static void swapOfLeastAndGreatest() {
        ScheduleLab lab = Programs.lab("4,7 2,3 2,3");
        Programs.go(lab, 0, 0);
        CHECK.isNow("SWAP of 0 and 7", lab, 0, 0, 0, 7, 0);
        Programs.go(lab, 0);
        CHECK.isNow("SWAP of 7 and 0", lab, 0, 0, 0, 0, 7);
    }

    private static void numbersOfOps() {
        CHECK.due("add of op 0", new ScheduleLab().add(0, 0, 1), 1);
        CHECK.due("add of op 11", new ScheduleLab().add(0, 11, 1), 1);
        CHECK.due("change to op 0", Programs.lab("3,0").change(0, 0, 0, 1), true);
        CHECK.due("change to op 11", Programs.lab("3,0").change(0, 0, 11, 1), true);
        for (int op : Programs.outside(0, 11)) {
            CHECK.refused("add of op " + op, new ScheduleLab().add(0, op, 1));
            CHECK.due("change to op " + op, Programs.lab("3,0").change(0, 0, op, 1), false);
        }
    }

    /** Variables 0 .. 3, numbers 0 .. 7, one to three to be passed over, locks 0 and 1. */
    private static void numbersOfInstructions() {
        for (int op = 0; op < 12; op++) {
            for (int a = Programs.least(op); a <= Programs.greatest(op); a++) {
                CHECK.due("add of " + op + "," + a, new ScheduleLab().add(2, op, a), 1);
                CHECK.due("change to " + op + "," + a, Programs.lab("| 3,0").change(1, 0, op, a), true);
            }
            for (int a : Programs.outside(Programs.least(op), Programs.greatest(op))) {
                CHECK.refused("add of " + op + "," + a, new ScheduleLab().add(2, op, a));
                CHECK.due("change to " + op + "," + a, Programs.lab("| 3,0").change(1, 0, op, a), false);
            }
        }
    }

    /** A SKIP at each place of each code. */
    private static void skipAsFarAsThereAreAny() {
        for (int a = 1; a <= 3; a++) {
            for (int length = 1; length <= 5; length++) {
                for (int k = 0; k < length; k++) {
                    int next = k + 1 + a;
                    skipLeadsTo(a, length, k, 0, next < length ? next : 5);
                }
            }
        }
    }

    private static void skipOnlyIfAccIsZero() {
        for (int acc : new int[] {1, 2, 7}) {
            for (int a = 1; a <= 3; a++) {
                skipLeadsTo(a, 5, 1, acc, 2);
                skipLeadsTo(a, 3, 1, acc, 2);
                skipLeadsTo(a, 2, 1, acc, 5);
            }
        }
        ScheduleLab lab = Programs.lab("4,7 5,1 6,1 3,0 3,1");
        Programs.go(lab, 0, 0, 0);
        CHECK.due("SKIP when 7 + 1 is 0", lab.now(7), 4);
    }

    /** Instruction k of thread 2 is SKIP a, and the ones before it only set ACC. */
    private static void skipLeadsTo(int a, int length, int k, int acc, int want) {
        ScheduleLab lab = new ScheduleLab();
        for (int n = 0; n < length; n++) {
            lab.add(2, n == k ? Programs.SKIP : Programs.SET, n == k ? a : acc);
        }
        for (int n = 0; n <= k; n++) {
            lab.go(2);
        }
        String call = "SKIP " + a + " at " + k + " of " + length + " with ACC " + acc;
        CHECK.due(call, lab.now(9), want);
        CHECK.due(call + ": ready", lab.now(16), want == 5 ? 0 : 4);
    }

    private static void passedOverAreNotDone() {
        ScheduleLab lab = Programs.lab("6,3 3,0 9,7 7,0 3,1");
        Programs.go(lab, 0, 0);
        CHECK.isNow("passed over", lab, 0, 1, 0, 0, 0, 0, 0, 5, 5, 5, -1, -1, 0, 0, 0, 0, 0);
    }

    private static void checkOfEachNumber() {
        for (int acc = 0; acc < 8; acc++) {
            for (int a = 0; a < 8; a++) {
                ScheduleLab lab = Programs.lab("4," + acc + " 9," + a);
                Programs.go(lab, 0);
                CHECK.due("not BAD before the CHECK", lab.now(15), 0);
                Programs.go(lab, 0);
                CHECK.due("CHECK " + a + " of " + acc, lab.now(15), acc == a ? 0 : 1);
            }
        }
    }

    private static void badFromThenOn() {
        ScheduleLab lab = Programs.lab("9,1 9,0 4,1 9,1 | 9,0 3,0");
        for (int thread : new int[] {0, 0, 0, 0, 1, 1}) {
            Programs.go(lab, thread);
            CHECK.due("BAD from then on", lab.now(15), 1);
        }
        CHECK.endingsAre("BAD to the end", lab, 4096 + 1);
    }

    private static void doneOnlyIfAllHaveEnded() {
        CHECK.endingsAre("no code has an end", new ScheduleLab(), 0);
        for (int t = 0; t < 3; t++) {
            ScheduleLab lab = Programs.lab(Programs.only(t, "7,0 7,1"));
            CHECK.endingsAre("thread " + t + " ends", lab, 0);
            lab.change(t, 1, Programs.LOCK, 0);
            CHECK.endingsAre("thread " + t + " does not", lab, 8192);
        }
    }

    private static void stuckWithoutAReadyThread() {
        CHECK.endingsAre("waits for ever", Programs.lab("7,0 10,0"), 8192);
        CHECK.endingsAre("notified, but it is taken for good",
            Programs.lab("7,0 10,0 | 7,0 11,0 3,0"), 8192 + 1);
        CHECK.endingsAre("BAD does not stop a run", Programs.lab("9,1 3,0"), 4096 + 1);
    }

    /** Two steps that touch, and they alone, make two kinds of the two runs that there are. */
    private static void twoStepsTouch() {
        for (String one : Programs.instructions()) {
            for (String other : Programs.instructions()) {
                int[][][] codes = Programs.codes(one + " | " + other);
                int want = Reference.touch(codes[0][0], codes[1][0]) ? 2 : 1;
                ScheduleLab lab = Programs.lab(one + " | " + other);
                CHECK.due("kinds() of " + one + " and " + other, lab.kinds(), want);
            }
        }
        CHECK.due("of one thread", Programs.lab("3,0 3,0").kinds(), 1);
    }
}
