/** The examples of README.md, call for call, so that what it shows stays true. */
public final class ReadmeTest {
    private static final Check CHECK = new Check("ReadmeTest");

    public static void main(String[] args) {
        lostSum();
        twoLocks();
        CHECK.end();
    }

    private static void lostSum() {
        ScheduleLab lab = new ScheduleLab();
        for (int thread = 0; thread < 2; thread++) {
            CHECK.due("LOAD 0", lab.add(thread, 0, 0), 1);
            CHECK.due("ADD 1", lab.add(thread, 5, 1), 2);
            CHECK.due("STORE 0", lab.add(thread, 1, 0), 3);
        }
        CHECK.due("endings()", lab.endings(), 2);
        CHECK.due("ending(0)", lab.ending(0), 1);
        CHECK.due("ending(1)", lab.ending(1), 2);
        CHECK.due("race(0)", lab.race(0), 1);
        CHECK.due("soonest(2)", lab.soonest(2), 6);
        CHECK.due("go(0)", lab.go(0), 1);
        CHECK.due("now(7)", lab.now(7), 1);
        CHECK.due("back()", lab.back(), 0);
    }

    private static void twoLocks() {
        ScheduleLab lab = Programs.lab("7,0 7,1 8,1 8,0 | 7,1 7,0 8,0 8,1");
        CHECK.due("soonest(1)", lab.soonest(1), 2);
        CHECK.due("step(1, 0)", lab.step(1, 0), 0);
        CHECK.due("step(1, 1)", lab.step(1, 1), 1);
        CHECK.due("kinds()", lab.kinds(), 3);
    }
}
