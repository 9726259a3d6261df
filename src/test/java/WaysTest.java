/** Promises 11 and 12 with ordinary inputs: soonest and step. */
public final class WaysTest {
    private static final Check CHECK = new Check("WaysTest");

    public static void main(String[] args) {
        lowerThreadFirst();
        shorterBeforeLower();
        fourGoals();
        fromThePresent();
        ofAnotherCode();
        overSkips();
        overWaits();
        CHECK.end();
    }

    private static void lowerThreadFirst() {
        CHECK.wayIs("all the same", Programs.lab("9,1 | 9,1 | 9,1"), 0, 0);
        CHECK.wayIs("two of three", Programs.lab("9,0 | 9,1 | 9,1"), 0, 1);
        CHECK.wayIs("DONE", Programs.lab("3,0 3,0 | 3,0 | 3,0 3,0"), 2, 0, 0, 1, 2, 2);
        CHECK.wayIs("early bird", Programs.lab("0,0 9,0 | 3,0 | 3,0"), 0, 1, 0, 0);
        CHECK.wayIs("the last must come first", Programs.lab("0,0 9,1 | | 3,0"), 3, 2, 0, 0);
        CHECK.wayIs("two locks", Programs.lab("7,0 7,1 | 7,1 7,0"), 1, 0, 0);
    }

    private static void shorterBeforeLower() {
        CHECK.wayIs("one step of thread 2", Programs.lab("4,1 9,0 | 4,1 9,0 | 9,1"), 0, 2);
        CHECK.wayIs("two of thread 1", Programs.lab("5,1 5,1 9,0 | 5,1 9,0 | 5,1 9,0"), 0, 1, 1);
    }

    private static void fourGoals() {
        ScheduleLab lab = Programs.lab("7,0 3,0 8,0 | 0,0 9,1 7,0 | 7,0");
        CHECK.wayIs("BAD", lab, 0, 1, 1);
        CHECK.wayIs("STUCK", lab, 1, 1, 1, 1);
        CHECK.isNever("two take the lock for good", lab, 2);
        CHECK.isNever("two take the lock for good", lab, 3);
        ScheduleLab good = Programs.lab("0,0 9,1 | 3,0");
        CHECK.wayIs("BAD", good, 0, 0, 0);
        CHECK.isNever("no lock", good, 1);
        CHECK.wayIs("DONE", good, 2, 0, 0, 1);
        CHECK.wayIs("DONE and not BAD", good, 3, 1, 0, 0);
        ScheduleLab bad = Programs.lab("9,3 | 3,0");
        CHECK.wayIs("DONE", bad, 2, 0, 1);
        CHECK.isNever("always BAD", bad, 3);
    }

    private static void fromThePresent() {
        ScheduleLab lab = Programs.lab("0,0 9,1 | 3,0 3,1");
        Programs.go(lab, 1);
        CHECK.isNever("the LOAD comes too late to fail", lab, 0);
        CHECK.wayIs("after one step", lab, 3, 0, 0, 1);
        lab.back();
        Programs.go(lab, 0, 0);
        CHECK.wayIs("two steps left", lab, 2, 1, 1);
        CHECK.isNever("BAD for ever", lab, 3);
    }

    /** What was found for a longer code is not to be seen again. */
    private static void ofAnotherCode() {
        ScheduleLab lab = Programs.lab("9,1");
        CHECK.wayIs("a CHECK", lab, 0, 0);
        lab.clear(0);
        CHECK.isNever("no CHECK", lab, 0);
    }

    private static void overSkips() {
        ScheduleLab lab = Programs.lab("0,0 6,3 3,1 3,1 3,1 | 3,0 3,0");
        CHECK.wayIs("a SKIP shortens", lab, 2, 0, 0, 1, 1);
        ScheduleLab late = Programs.lab("3,0 | 0,0 6,3 3,1 3,1 3,1");
        CHECK.wayIs("the lower thread must be later", late, 2, 1, 0, 1);
    }

    private static void overWaits() {
        ScheduleLab lab = Programs.lab("7,0 10,0 8,0 | 7,0 11,0 8,0");
        CHECK.wayIs("the notified goes on", lab, 2, 0, 0, 1, 1, 1, 0, 0);
        CHECK.wayIs("notified too early", lab, 1, 1, 1, 1, 0, 0);
    }
}
