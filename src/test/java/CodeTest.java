/** Promises 2 to 4 with ordinary inputs: add, clear, change. */
public final class CodeTest {
    private static final Check CHECK = new Check("CodeTest");

    public static void main(String[] args) {
        addAppends();
        clearTakesAway();
        changeReplaces();
        eachReturnsToFirst();
        CHECK.end();
    }

    private static void addAppends() {
        ScheduleLab lab = new ScheduleLab();
        CHECK.due("the first of thread 2", lab.add(2, Programs.SET, 3), 1);
        CHECK.due("the second of thread 2", lab.add(2, Programs.STORE, 1), 2);
        CHECK.due("the first of thread 0", lab.add(0, Programs.INC, 0), 1);
        CHECK.due("the third of thread 2", lab.add(2, Programs.INC, 1), 3);
        Programs.go(lab, 2, 2);
        CHECK.isNow("in their order", lab, 0, 3, 0, 0, 0, 0, 3, 0, 5, 2);
        Programs.go(lab, 2, 0);
        CHECK.isNow("to the end", lab, 1, 4, 0, 0, 0, 0, 3, 5, 5, 5);
    }

    private static void clearTakesAway() {
        ScheduleLab lab = Programs.lab("3,0 3,0 | 3,1 | 3,2 3,2 3,2");
        CHECK.due("clear(2)", lab.clear(2), 3);
        CHECK.due("cleared thread is behind", lab.now(9), 5);
        CHECK.refused("cleared thread does not go", lab.go(2));
        CHECK.due("others keep their code", lab.states(), 6);
        CHECK.due("add after clear", lab.add(2, Programs.SET, 6), 1);
        Programs.go(lab, 2);
        CHECK.due("the new instruction is done", lab.now(6), 6);
        CHECK.due("nothing of the old code is left", lab.now(9), 5);
    }

    private static void changeReplaces() {
        ScheduleLab lab = Programs.lab("3,0 3,0 | 3,1");
        CHECK.due("change of the last", lab.change(0, 1, Programs.SET, 7), true);
        CHECK.due("change of the first", lab.change(0, 0, Programs.INC, 3), true);
        CHECK.due("change of thread 1", lab.change(1, 0, Programs.ADD, 2), true);
        Programs.go(lab, 0, 0, 1);
        CHECK.isNow("all are other ones", lab, 0, 0, 0, 1, 7, 2, 0);
        CHECK.due("the length is the same", lab.clear(0), 2);
    }

    /** "again if a code is changed in any way". */
    private static void eachReturnsToFirst() {
        ScheduleLab added = Programs.busy();
        added.add(2, Programs.INC, 0);
        CHECK.isNow("add", added, 0, 0, 0, 0, 0, 0, 0, 0, 0, 0, -1, -1, 0, 0, 0, 0, 7);
        ScheduleLab cleared = Programs.busy();
        cleared.clear(1);
        CHECK.isNow("clear", cleared, 0, 0, 0, 0, 0, 0, 0, 0, 5, 0, -1, -1, 0, 0, 0, 0, 5);
        ScheduleLab changed = Programs.busy();
        changed.change(0, 4, Programs.INC, 0);
        CHECK.isNow("change", changed, 0, 0, 0, 0, 0, 0, 0, 0, 0, 0, -1, -1, 0, 0, 0, 0, 7);
    }
}
