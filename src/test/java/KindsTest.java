/** Promise 15: kinds, with ordinary inputs and at its limit of 2000. */
public final class KindsTest {
    private static final Check CHECK = new Check("KindsTest");

    public static void main(String[] args) {
        oneKind();
        allTouch();
        locksDecide();
        waitsDecide();
        skipsDecide();
        fromThePresent();
        upTo2000();
        farAbove2000();
        manyNoMoreAfterSteps();
        fewKindsOfManyStates();
        manyKindsOfFewStates();
        CHECK.end();
    }

    /** The run of no steps is one too. */
    private static void oneKind() {
        CHECK.due("no code", new ScheduleLab().kinds(), 1);
        CHECK.due("one thread", Programs.lab("3,0 3,0 3,0").kinds(), 1);
        ScheduleLab done = Programs.lab("3,0 | 3,0");
        Programs.go(done, 1, 0);
        CHECK.due("done already", done.kinds(), 1);
        ScheduleLab stuck = Programs.lab("7,0 7,0 3,0");
        Programs.go(stuck, 0);
        CHECK.due("stuck already", stuck.kinds(), 1);
    }

    private static void allTouch() {
        CHECK.due("1, 1, 1", Programs.lab("3,0 | 3,0 | 3,0").kinds(), 6);
        CHECK.due("5, 5", Programs.lab("3,0 3,0 3,0 3,0 3,0 | 2,0 2,0 2,0 2,0 2,0").kinds(), 252);
        CHECK.due("3, 3, 3", Programs.lab("1,0 1,0 1,0 | 3,0 3,0 3,0 | 3,0 3,0 3,0").kinds(), 1680);
        CHECK.due("two by two", Programs.lab("3,0 3,1 | 3,0 3,1").kinds(), 4);
        CHECK.due("two that cross", Programs.lab("3,0 3,1 | 3,1 3,0").kinds(), 3);
        CHECK.due("LOADs do not touch", Programs.lab("0,0 0,0 | 0,0 0,0 | 3,0").kinds(), 9);
    }

    private static void locksDecide() {
        String inside = "7,0 3,0 8,0 | 7,0 3,0 8,0";
        CHECK.due("one lock", Programs.lab(inside).kinds(), 2);
        CHECK.due("one lock of three", Programs.lab(inside + "| 7,0 3,0 8,0").kinds(), 6);
        CHECK.due("two that cross", Programs.lab("7,0 7,1 8,1 8,0 | 7,1 7,0 8,0 8,1").kinds(), 3);
        CHECK.due("taken for good", Programs.lab("7,0 3,0 | 7,0 3,0").kinds(), 2);
    }

    private static void waitsDecide() {
        // NOTIFY before LOCK, between LOCK and WAIT, or behind WAIT, and then the lock again.
        CHECK.due("one NOTIFY", Programs.lab("7,0 10,0 | 11,0").kinds(), 3);
        CHECK.due("of the other lock", Programs.lab("7,0 10,0 | 11,1").kinds(), 1);
        CHECK.due("of three", Programs.lab("7,0 10,0 | 7,0 10,0 | 11,0").kinds(), waitersOfThree());
    }

    /** By the literal reference, as too many to be told by hand. */
    private static int waitersOfThree() {
        return new Reference(Programs.codes("7,0 10,0 | 7,0 10,0 | 11,0")).kinds();
    }

    private static void skipsDecide() {
        CHECK.due("a SKIP by what was loaded", Programs.lab("0,0 6,1 3,0 | 3,0").kinds(), 2);
        CHECK.due("another one", Programs.lab("0,0 6,1 3,1 | 3,0 3,1").kinds(), 3);
        CHECK.due("a SKIP of no matter", Programs.lab("6,1 3,0 | 3,0").kinds(), 1);
    }

    private static void fromThePresent() {
        ScheduleLab lab = Programs.lab("3,0 3,0 | 3,0 3,0");
        CHECK.due("at first", lab.kinds(), 6);
        Programs.go(lab, 0);
        CHECK.due("after a step", lab.kinds(), 3);
        Programs.go(lab, 0);
        CHECK.due("after two steps", lab.kinds(), 1);
        CHECK.due("kinds changes nothing", lab.now(0), 2);
        CHECK.due("nor the steps", lab.back(), 1);
        CHECK.due("after back", lab.kinds(), 3);
    }

    private static void upTo2000() {
        CHECK.due("2000 by the reference", new Reference(Programs.codes(Programs.MOST_KINDS)).kinds(), 2000);
        CHECK.due("2001 by the reference", new Reference(Programs.codes(Programs.TOO_MANY_KINDS)).kinds(), 2001);
        ScheduleLab lab = Programs.lab(Programs.MOST_KINDS);
        CHECK.due("2000 kinds", lab.kinds(), 2000);
        CHECK.due("one kind more", lab.change(0, 3, Programs.LOAD, 0), true);
        CHECK.due("2001 kinds", lab.kinds(), ScheduleLab.MANY);
        CHECK.due("one kind less", lab.change(0, 3, Programs.INC, 1), true);
        CHECK.due("2000 kinds again", lab.kinds(), 2000);
    }

    private static void farAbove2000() {
        String five = "3,0 3,0 3,0 3,0 3,0";
        CHECK.due("2520 kinds", Programs.lab(five + " | 3,0 3,0 3,0 | 3,0 3,0").kinds(), ScheduleLab.MANY);
        ScheduleLab most = Programs.lab(five + "|" + five + "|" + five);
        CHECK.due("756756 kinds", most.kinds(), ScheduleLab.MANY);
        most.clear(2);
        CHECK.due("nothing is left of them", most.kinds(), 252);
        most.clear(1);
        CHECK.due("nor of these", most.kinds(), 1);
    }

    /** The present state is the one that counts, not the first one. */
    private static void manyNoMoreAfterSteps() {
        ScheduleLab lab = Programs.lab("3,0 3,0 3,0 3,0 3,0 | 3,0 3,0 3,0 | 3,0 3,0");
        CHECK.due("2520 kinds", lab.kinds(), ScheduleLab.MANY);
        Programs.go(lab, 0);
        CHECK.due("1260 kinds", lab.kinds(), 1260);
        lab.back();
        CHECK.due("2520 kinds again", lab.kinds(), ScheduleLab.MANY);
    }

    /** MANY is told of kinds by their own number, not by that of the states. */
    private static void fewKindsOfManyStates() {
        CHECK.due("1201 states", Programs.lab(Programs.TOO_MANY).kinds(), 129);
        String kinds2000 = "5,1 10,1 0,0 3,0 7,0 | 2,0 10,0 10,0 10,1 3,0 | 3,0 10,0 3,0 0,0 7,0";
        CHECK.due("1270 states", Programs.lab(kinds2000).states(), ScheduleLab.MANY);
        CHECK.due("1270 states, 2000 kinds", Programs.lab(kinds2000).kinds(), 2000);
    }

    private static void manyKindsOfFewStates() {
        CHECK.due("256 states", Programs.lab(Programs.TOO_MANY_KINDS).states(), 256);
        CHECK.due("2001 kinds", Programs.lab(Programs.TOO_MANY_KINDS).kinds(), ScheduleLab.MANY);
    }
}
