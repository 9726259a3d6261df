/** Promise 15: kinds. */
public final class KindsTest {
    private static final Check CHECK = new Check("KindsTest");

    public static void main(String[] args) {
        noRuns();
        twoOps();
        allTouch();
        locksDecide();
        waitsDecide();
        skipsDecide();
        fromThePresent();
        atTheLimit();
        manyStatesFewKinds();
        CHECK.end();
    }

    private static void noRuns() {
        CHECK.due("no code", new ScheduleLab().kinds(), 1);
        CHECK.due("one thread", Programs.lab("3,0 3,0 3,0").kinds(), 1);
        ScheduleLab stuck = Programs.lab("7,0 7,0 3,0");
        Programs.go(stuck, 0);
        CHECK.due("stuck already", stuck.kinds(), 1);
    }

    /** Two steps make two kinds if and only if they touch. */
    private static void twoOps() {
        for (int op = 0; op < 12; op++) {
            for (int other = 0; other < 12; other++) {
                boolean variable = op <= 3 && other <= 3 && op + other > 0;
                boolean lock = isOfLock(op) && isOfLock(other);
                int want = variable || lock ? 2 : 1;
                String call = "kinds() of " + op + " and " + other;
                CHECK.due(call, Programs.lab(op + ",1 | | " + other + ",1").kinds(), want);
                int away = op == Programs.SKIP ? 2 : 0;
                ScheduleLab apart = Programs.lab(op + "," + away + " | " + other + ",1");
                CHECK.due(call + " of others", apart.kinds(), 1);
            }
        }
    }

    private static boolean isOfLock(int op) {
        return op == 7 || op == 8 || op == 10 || op == 11;
    }

    private static void allTouch() {
        CHECK.due("1, 1, 1", Programs.lab("3,0 | 3,0 | 3,0").kinds(), 6);
        CHECK.due("5, 5", Programs.lab("3,0 3,0 3,0 3,0 3,0 | 2,0 2,0 2,0 2,0 2,0").kinds(), 252);
        CHECK.due("3, 3, 3", Programs.lab("1,0 1,0 1,0 | 3,0 3,0 3,0 | 3,0 3,0 3,0").kinds(), 1680);
        CHECK.due("two by two", Programs.lab("3,0 3,1 | 3,0 3,1").kinds(), 4);
        CHECK.due("two that cross", Programs.lab("3,0 3,1 | 3,1 3,0").kinds(), 3);
        CHECK.due("LOADs do not touch", Programs.lab("0,0 0,0 | 0,0 0,0 | 3,0").kinds(), 9);
    }

    private static void locksDecide() {
        String inside = "7,0 3,0 8,0 | 7,0 3,0 8,0";
        CHECK.due("one lock", Programs.lab(inside).kinds(), 2);
        CHECK.due("one lock of three", Programs.lab(inside + "| 7,0 3,0 8,0").kinds(), 6);
        CHECK.due("two that cross", Programs.lab("7,0 7,1 8,1 8,0 | 7,1 7,0 8,0 8,1").kinds(), 3);
        CHECK.due("taken for good", Programs.lab("7,0 3,0 | 7,0 3,0").kinds(), 2);
    }

    private static void waitsDecide() {
        // NOTIFY before LOCK, between LOCK and WAIT, or behind WAIT, and then the lock again.
        CHECK.due("one NOTIFY", Programs.lab("7,0 10,0 | 11,0").kinds(), 3);
        CHECK.due("of the other lock", Programs.lab("7,0 10,0 | 11,1").kinds(), 1);
        CHECK.due("of three", Programs.lab("7,0 10,0 | 7,0 10,0 | 11,0").kinds(), waitersOfThree());
    }

    /** By the literal reference, as too many to be told by hand. */
    private static int waitersOfThree() {
        return new Reference(Programs.codes("7,0 10,0 | 7,0 10,0 | 11,0")).kinds();
    }

    private static void skipsDecide() {
        CHECK.due("a SKIP by what was loaded", Programs.lab("0,0 6,1 3,0 | 3,0").kinds(), 2);
        CHECK.due("another one", Programs.lab("0,0 6,1 3,1 | 3,0 3,1").kinds(), 3);
        CHECK.due("a SKIP of no matter", Programs.lab("6,1 3,0 | 3,0").kinds(), 1);
    }

    private static void fromThePresent() {
        ScheduleLab lab = Programs.lab("3,0 3,0 | 3,0 3,0");
        CHECK.due("at first", lab.kinds(), 6);
        Programs.go(lab, 0);
        CHECK.due("after a step", lab.kinds(), 3);
        Programs.go(lab, 0);
        CHECK.due("after two steps", lab.kinds(), 1);
        CHECK.due("kinds changes nothing", lab.now(0), 2);
        CHECK.due("nor the steps", lab.back(), 1);
        CHECK.due("after back", lab.kinds(), 3);
    }

    private static void atTheLimit() {
        String most = "8,1 1,3 0,0 8,0 | 2,3 7,1 7,0 1,0 8,0 | 11,1 11,1 2,3 8,0 10,0";
        String tooMany = "10,0 10,0 10,1 11,0 11,0 | 10,1 10,1 7,0 11,0 | 9,5 10,0 5,0 11,1 10,0";
        CHECK.due("2000 by the reference", new Reference(Programs.codes(most)).kinds(), 2000);
        CHECK.due("2000 kinds", Programs.lab(most).kinds(), 2000);
        CHECK.due("2001 by the reference", new Reference(Programs.codes(tooMany)).kinds(), 2001);
        CHECK.due("2001 kinds", Programs.lab(tooMany).kinds(), ScheduleLab.MANY);
        CHECK.due("2520 kinds", Programs.lab("3,0 3,0 3,0 3,0 3,0 | 3,0 3,0 3,0 | 3,0 3,0").kinds(),
            ScheduleLab.MANY);
        String five = "3,0 3,0 3,0 3,0 3,0";
        CHECK.due("the most", Programs.lab(five + "|" + five + "|" + five).kinds(), ScheduleLab.MANY);
    }

    private static void manyStatesFewKinds() {
        CHECK.due("MANY states", Programs.lab(Programs.TOO_MANY).states(), ScheduleLab.MANY);
        CHECK.due("few kinds", Programs.lab(Programs.TOO_MANY).kinds(), 632);
    }
}
