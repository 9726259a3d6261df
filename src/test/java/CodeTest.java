/** Promises 1 to 4: a new object, add, clear, change. */
public final class CodeTest {
    private static final Check CHECK = new Check("CodeTest");
    private static final int[] NO_THREADS = {-1, 3, 4, Integer.MIN_VALUE, Integer.MAX_VALUE};
    private static final int[] NO_OPS = {-1, 12, 13, Integer.MIN_VALUE, Integer.MAX_VALUE};
    private static final int[] LEAST = {0, 0, 0, 0, 0, 0, 1, 0, 0, 0, 0, 0};
    private static final int[] GREATEST = {3, 3, 3, 3, 7, 7, 3, 1, 1, 7, 1, 1};

    public static void main(String[] args) {
        newObject();
        addCounts();
        addRefuses();
        addReturnsToFirst();
        clearTakesAway();
        clearReturnsToFirst();
        changeReplaces();
        changeRefuses();
        changeReturnsToFirst();
        CHECK.end();
    }

    private static void newObject() {
        ScheduleLab lab = new ScheduleLab();
        int[] want = {0, 0, 0, 0, 0, 0, 0, 5, 5, 5, -1, -1, 0, 0, 0, 0, 0};
        for (int what = 0; what < want.length; what++) {
            CHECK.due("new now(" + what + ")", lab.now(what), want[what]);
        }
        CHECK.due("new back()", lab.back(), ScheduleLab.REFUSED);
        CHECK.due("new states()", lab.states(), 1);
        for (int t = 0; t < 3; t++) {
            CHECK.due("new go(" + t + ")", lab.go(t), ScheduleLab.REFUSED);
            CHECK.due("new clear(" + t + ")", lab.clear(t), 0);
        }
    }

    private static void addCounts() {
        ScheduleLab lab = new ScheduleLab();
        for (int t = 2; t >= 0; t--) {
            for (int n = 1; n <= 5; n++) {
                CHECK.due("add " + n + " of thread " + t, lab.add(t, Programs.INC, t), n);
            }
            CHECK.due("a sixth add", lab.add(t, Programs.INC, t), ScheduleLab.REFUSED);
        }
        CHECK.due("six times 216", lab.states(), 216);
        for (int t = 0; t < 3; t++) {
            CHECK.due("clear after six adds", lab.clear(t), 5);
        }
    }

    private static void addRefuses() {
        int[] arguments = {Integer.MIN_VALUE, -1, 0, 1, 2, 3, 4, 5, 6, 7, 8, Integer.MAX_VALUE};
        for (int op = 0; op < 12; op++) {
            for (int a : arguments) {
                int want = a >= LEAST[op] && a <= GREATEST[op] ? 1 : ScheduleLab.REFUSED;
                CHECK.due("add(1, " + op + ", " + a + ")", new ScheduleLab().add(1, op, a), want);
            }
        }
        ScheduleLab lab = new ScheduleLab();
        for (int thread : NO_THREADS) {
            CHECK.due("add to thread " + thread, lab.add(thread, 3, 0), ScheduleLab.REFUSED);
        }
        for (int op : NO_OPS) {
            CHECK.due("add of op " + op, lab.add(0, op, 0), ScheduleLab.REFUSED);
        }
        CHECK.due("states after refusals", lab.states(), 1);
        CHECK.due("add after refusals", lab.add(0, 3, 0), 1);
    }

    private static void addReturnsToFirst() {
        ScheduleLab lab = Programs.lab("3,0 3,0 3,0 3,0 3,0");
        Programs.go(lab, 0, 0);
        lab.add(0, 3, 0);
        lab.add(1, 3, 4);
        CHECK.due("refused adds keep the present state", lab.now(0), 2);
        CHECK.due("add to another thread", lab.add(1, 3, 1), 1);
        CHECK.due("add sets the variables back", lab.now(0), 0);
        CHECK.due("add sets the place back", lab.now(7), 0);
        CHECK.due("add leaves no step", lab.back(), ScheduleLab.REFUSED);
    }

    private static void clearTakesAway() {
        ScheduleLab lab = Programs.lab("3,0 3,0 | 3,1 | 3,2 3,2 3,2");
        for (int thread : NO_THREADS) {
            CHECK.due("clear(" + thread + ")", lab.clear(thread), ScheduleLab.REFUSED);
        }
        CHECK.due("clear(2)", lab.clear(2), 3);
        CHECK.due("clear(2) again", lab.clear(2), 0);
        CHECK.due("cleared thread is behind", lab.now(9), 5);
        CHECK.due("cleared thread does not go", lab.go(2), ScheduleLab.REFUSED);
        CHECK.due("others keep their code", lab.states(), 6);
        CHECK.due("add after clear", lab.add(2, Programs.SET, 6), 1);
        Programs.go(lab, 2);
        CHECK.due("the new instruction is done", lab.now(6), 6);
        CHECK.due("nothing of the old code is left", lab.now(9), 5);
    }

    private static void clearReturnsToFirst() {
        ScheduleLab lab = Programs.lab("3,0 3,0");
        Programs.go(lab, 0);
        lab.clear(3);
        CHECK.due("a refused clear keeps the present state", lab.now(0), 1);
        CHECK.due("clear of an empty code", lab.clear(1), 0);
        CHECK.due("it sets the present state back", lab.now(0), 0);
        CHECK.due("it leaves no step", lab.back(), ScheduleLab.REFUSED);
    }

    private static void changeReplaces() {
        ScheduleLab lab = Programs.lab("3,0 3,0 | 3,1");
        CHECK.due("change of the last", lab.change(0, 1, Programs.SET, 7), true);
        CHECK.due("change of the first", lab.change(0, 0, Programs.INC, 3), true);
        CHECK.due("change of thread 1", lab.change(1, 0, Programs.ADD, 2), true);
        Programs.go(lab, 0, 0, 1);
        CHECK.due("the first is another one", lab.now(3), 1);
        CHECK.due("the old first is gone", lab.now(0), 0);
        CHECK.due("the last is another one", lab.now(4), 7);
        CHECK.due("that of thread 1 is another one", lab.now(5), 2);
        CHECK.due("the length is the same", lab.clear(0), 2);
    }

    private static void changeRefuses() {
        ScheduleLab lab = Programs.lab("3,0 3,0");
        Programs.go(lab, 0);
        int[] noNumbers = {-1, 2, 3, 5, Integer.MIN_VALUE, Integer.MAX_VALUE};
        for (int k : noNumbers) {
            CHECK.due("change(0, " + k + ", 3, 1)", lab.change(0, k, 3, 1), false);
        }
        for (int thread : NO_THREADS) {
            CHECK.due("change of thread " + thread, lab.change(thread, 0, 3, 1), false);
        }
        for (int op : NO_OPS) {
            CHECK.due("change to op " + op, lab.change(0, 0, op, 0), false);
        }
        for (int op = 0; op < 12; op++) {
            CHECK.due("change, " + op + " below", lab.change(0, 0, op, LEAST[op] - 1), false);
            CHECK.due("change, " + op + " above", lab.change(0, 0, op, GREATEST[op] + 1), false);
        }
        CHECK.due("change of an empty code", lab.change(1, 0, 3, 1), false);
        CHECK.due("the present state is kept", lab.now(0), 1);
        CHECK.due("the code is kept", lab.go(0), 2);
        CHECK.due("variable 0 after both", lab.now(0), 2);
    }

    private static void changeReturnsToFirst() {
        ScheduleLab lab = Programs.lab("3,0 3,0");
        Programs.go(lab, 0);
        CHECK.due("change to the same", lab.change(0, 1, 3, 0), true);
        CHECK.due("it sets the present state back", lab.now(0), 0);
        CHECK.due("it leaves no step", lab.back(), ScheduleLab.REFUSED);
    }
}
