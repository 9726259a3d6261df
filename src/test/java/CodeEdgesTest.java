/** The edges of promises 1 to 4: no instructions, five of them, and each call that is refused. */
public final class CodeEdgesTest {
    private static final Check CHECK = new Check("CodeEdgesTest");

    public static void main(String[] args) {
        newObjectHasNoInstructions();
        addAnswersOneToFive();
        addToAFullCode();
        addToNoThread();
        addOfNoOp();
        addOfNoNumber();
        clearAnswersNoneToFive();
        clearOfNoThread();
        addAfterClear();
        changeOfFirstAndLast();
        changeOfNoInstruction();
        changeAfterClear();
        changeOfNoThread();
        changeToNoOp();
        changeToNoNumber();
        CHECK.end();
    }

    private static void newObjectHasNoInstructions() {
        for (int t = 0; t < 3; t++) {
            ScheduleLab lab = new ScheduleLab();
            CHECK.isNow("new", lab, 0, 0, 0, 0, 0, 0, 0, 5, 5, 5, -1, -1, 0, 0, 0, 0, 0);
            CHECK.refused("new: back()", lab.back());
            CHECK.refused("new: go(" + t + ")", lab.go(t));
            CHECK.due("new: change", lab.change(t, 0, Programs.INC, 0), false);
            CHECK.due("new: states()", lab.states(), 1);
            CHECK.due("new: kinds()", lab.kinds(), 1);
            CHECK.endingsAre("new", lab, 0);
            CHECK.due("new: clear(" + t + ")", lab.clear(t), 0);
            CHECK.due("new: add", lab.add(t, Programs.INC, 0), 1);
        }
    }

    private static void addAnswersOneToFive() {
        ScheduleLab lab = new ScheduleLab();
        for (int n = 1; n <= 5; n++) {
            for (int t = 0; t < 3; t++) {
                CHECK.due("add " + n + " to thread " + t, lab.add(t, Programs.ADD, n), n);
            }
        }
        Programs.go(lab, 0, 0, 0, 0, 0, 2, 2, 2, 2, 2);
        CHECK.due("all five of thread 0", lab.now(4), 15 % 8);
        CHECK.due("none of thread 1", lab.now(5), 0);
        CHECK.due("all five of thread 2", lab.now(6), 15 % 8);
    }

    private static void addToAFullCode() {
        ScheduleLab lab = Programs.busy();
        CHECK.refused("a sixth to thread 0", lab.add(0, Programs.INC, 0));
        CHECK.refused("a sixth to thread 1", lab.add(1, Programs.SET, 7));
        CHECK.refused("a sixth that is none", lab.add(1, 12, 9));
        Twins.areSame(CHECK, "full codes", lab, Programs.busy());
        ScheduleLab other = Programs.busy();
        CHECK.due("a fifth to thread 2", other.add(2, Programs.INC, 0), 5);
        CHECK.refused("a sixth to thread 2", other.add(2, Programs.INC, 0));
        CHECK.due("five there", other.clear(2), 5);
    }

    private static void addToNoThread() {
        ScheduleLab lab = Programs.busy();
        for (int thread : Programs.outside(0, 2)) {
            CHECK.refused("add to thread " + thread, lab.add(thread, Programs.INC, 0));
        }
        Twins.areSame(CHECK, "add to no thread", lab, Programs.busy());
    }

    private static void addOfNoOp() {
        ScheduleLab lab = Programs.busy();
        for (int op : Programs.outside(0, 11)) {
            CHECK.refused("add of op " + op, lab.add(2, op, 0));
        }
        Twins.areSame(CHECK, "add of no op", lab, Programs.busy());
    }

    private static void addOfNoNumber() {
        ScheduleLab lab = Programs.busy();
        for (int op = 0; op < 12; op++) {
            for (int a : Programs.outside(Programs.least(op), Programs.greatest(op))) {
                CHECK.refused("add of " + op + "," + a, lab.add(2, op, a));
            }
        }
        Twins.areSame(CHECK, "add of no number", lab, Programs.busy());
    }

    private static void clearAnswersNoneToFive() {
        for (int t = 0; t < 3; t++) {
            for (int length = 0; length <= 5; length++) {
                ScheduleLab lab = Programs.lab(Programs.only(t, "3,0 ".repeat(length)));
                CHECK.due("clear(" + t + ") of " + length, lab.clear(t), length);
                CHECK.due("clear(" + t + ") again", lab.clear(t), 0);
                CHECK.due("behind no code", lab.now(7 + t), 5);
            }
        }
    }

    private static void clearOfNoThread() {
        ScheduleLab lab = Programs.busy();
        for (int thread : Programs.outside(0, 2)) {
            CHECK.refused("clear(" + thread + ")", lab.clear(thread));
        }
        Twins.areSame(CHECK, "clear of no thread", lab, Programs.busy());
    }

    /** A full code can be full again, and a shorter one has nothing of the old one behind it. */
    private static void addAfterClear() {
        ScheduleLab lab = Programs.lab("3,0 3,0 3,0 3,0 3,0");
        lab.clear(0);
        CHECK.due("first again", lab.add(0, Programs.INC, 1), 1);
        Programs.go(lab, 0, 0);
        CHECK.isNow("one alone", lab, 0, 1, 0, 0, 0, 0, 0, 5, 5, 5, -1, -1, 0, 0, 0, 0, 0);
        for (int n = 2; n <= 5; n++) {
            CHECK.due("again number " + n, lab.add(0, Programs.INC, 1), n);
        }
        CHECK.refused("a sixth again", lab.add(0, Programs.INC, 1));
    }

    private static void changeOfFirstAndLast() {
        for (int length = 1; length <= 5; length++) {
            ScheduleLab lab = Programs.lab("| 3,0 3,0 3,0 3,0 3,0 | " + "3,0 ".repeat(length));
            CHECK.due("the last of " + length, lab.change(2, length - 1, Programs.INC, 2), true);
            CHECK.due("the first of " + length, lab.change(2, 0, Programs.INC, 1), true);
            Programs.go(lab, 2, 2, 2, 2, 2);
            CHECK.due("first of " + length + " done", lab.now(1), 1);
            CHECK.due("last of " + length + " done", lab.now(2), length == 1 ? 0 : 1);
            CHECK.due("the others as before", lab.now(0), length > 2 ? length - 2 : 0);
        }
    }

    /** Below the first and behind the last one; there is nothing appended either. */
    private static void changeOfNoInstruction() {
        ScheduleLab lab = Programs.busy();
        for (int t = 0; t < 3; t++) {
            for (int k : Programs.outside(0, t == 2 ? 3 : 4)) {
                CHECK.due("change of " + k, lab.change(t, k, Programs.INC, 0), false);
            }
        }
        Twins.areSame(CHECK, "change of no instruction", lab, Programs.busy());
        for (int length = 0; length <= 5; length++) {
            ScheduleLab one = Programs.lab("3,1 3,1 3,1 3,1 3,1 | " + "3,0 ".repeat(length));
            CHECK.due("behind " + length, one.change(1, length, Programs.INC, 2), false);
            CHECK.due("still " + length, one.clear(1), length);
        }
    }

    private static void changeAfterClear() {
        ScheduleLab lab = Programs.lab("3,0 3,0 3,0");
        lab.clear(0);
        CHECK.due("the first of none", lab.change(0, 0, Programs.INC, 0), false);
        lab.add(0, Programs.INC, 3);
        CHECK.due("the second of one", lab.change(0, 1, Programs.INC, 0), false);
        CHECK.due("the first of one", lab.change(0, 0, Programs.INC, 2), true);
        CHECK.endingsAre("one alone", lab, 64);
    }

    private static void changeOfNoThread() {
        ScheduleLab lab = Programs.busy();
        for (int thread : Programs.outside(0, 2)) {
            CHECK.due("change of thread " + thread, lab.change(thread, 0, Programs.INC, 0), false);
        }
        Twins.areSame(CHECK, "change of no thread", lab, Programs.busy());
    }

    private static void changeToNoOp() {
        ScheduleLab lab = Programs.busy();
        for (int op : Programs.outside(0, 11)) {
            CHECK.due("change to op " + op, lab.change(0, 0, op, 0), false);
        }
        Twins.areSame(CHECK, "change to no op", lab, Programs.busy());
    }

    private static void changeToNoNumber() {
        ScheduleLab lab = Programs.busy();
        for (int op = 0; op < 12; op++) {
            for (int a : Programs.outside(Programs.least(op), Programs.greatest(op))) {
                CHECK.due("change to " + op + "," + a, lab.change(1, 4, op, a), false);
            }
        }
        Twins.areSame(CHECK, "change to no number", lab, Programs.busy());
    }
}
