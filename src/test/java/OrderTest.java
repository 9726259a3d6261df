/** Promise 16: what is tested first, what sets the present state back, and how numbers begin. */
public final class OrderTest {
    private static final Check CHECK = new Check("OrderTest");

    public static void main(String[] args) {
        constants();
        refusedBeforeMany();
        manyBeforeRefused();
        neverBeforeRefused();
        setsBack();
        numbersBeginWithNone();
        CHECK.end();
    }

    private static void constants() {
        CHECK.due("REFUSED", ScheduleLab.REFUSED, -1);
        CHECK.due("MANY", ScheduleLab.MANY, -2);
        CHECK.due("NEVER", ScheduleLab.NEVER, -3);
    }

    private static void refusedBeforeMany() {
        ScheduleLab lab = Programs.lab(Programs.TOO_MANY);
        CHECK.due("soonest(4)", lab.soonest(4), ScheduleLab.REFUSED);
        CHECK.due("soonest(-1)", lab.soonest(-1), ScheduleLab.REFUSED);
        CHECK.due("race(4)", lab.race(4), ScheduleLab.REFUSED);
        CHECK.due("meet(0, 6, 1, 0)", lab.meet(0, 6, 1, 0), ScheduleLab.REFUSED);
        CHECK.due("meet(1, 0, 1, 0)", lab.meet(1, 0, 1, 0), ScheduleLab.REFUSED);
        CHECK.due("step(4, 0)", lab.step(4, 0), ScheduleLab.REFUSED);
    }

    private static void manyBeforeRefused() {
        ScheduleLab lab = Programs.lab(Programs.TOO_MANY);
        CHECK.due("step(0, -1)", lab.step(0, -1), ScheduleLab.MANY);
        CHECK.due("step(2, 99)", lab.step(2, 99), ScheduleLab.MANY);
        CHECK.due("soonest(1) that comes never", lab.soonest(1), ScheduleLab.MANY);
        CHECK.due("ending(-1)", lab.ending(-1), ScheduleLab.MANY);
        CHECK.due("ending(9999)", lab.ending(9999), ScheduleLab.MANY);
    }

    private static void neverBeforeRefused() {
        ScheduleLab lab = Programs.lab("3,0");
        CHECK.due("step(0, -1)", lab.step(0, -1), ScheduleLab.NEVER);
        CHECK.due("step(1, 99)", lab.step(1, 99), ScheduleLab.NEVER);
        CHECK.due("step(2, 1)", lab.step(2, 1), ScheduleLab.REFUSED);
        CHECK.due("step(4, -1)", lab.step(4, -1), ScheduleLab.REFUSED);
    }

    private static void setsBack() {
        ScheduleLab lab = Programs.lab("9,1 7,0 10,0 | 3,0");
        Programs.go(lab, 0, 0, 0, 1);
        CHECK.due("it waits", lab.now(12), 1);
        lab.clear(2);
        isFirst("clear of an empty code", lab);
        Programs.go(lab, 0, 0, 1);
        lab.change(1, 0, 3, 0);
        isFirst("change to the same", lab);
    }

    private static void isFirst(String when, ScheduleLab lab) {
        int[] want = {0, 0, 0, 0, 0, 0, 0, 0, 0, 5, -1, -1, 0, 0, 0, 0, 3};
        for (int what = 0; what < want.length; what++) {
            CHECK.due(when + ": now(" + what + ")", lab.now(what), want[what]);
        }
        CHECK.due(when + ": back()", lab.back(), ScheduleLab.REFUSED);
    }

    private static void numbersBeginWithNone() {
        ScheduleLab lab = Programs.lab("3,0 3,0 | 3,0");
        CHECK.due("now at first", lab.now(7), 0);
        Programs.go(lab, 0);
        CHECK.due("now after a step", lab.now(7), 1);
        CHECK.due("meet at first", lab.meet(0, 1, 1, 0), 1);
        CHECK.due("change of the first", lab.change(1, 0, 3, 2), true);
        CHECK.due("change of the second", lab.change(1, 1, 3, 2), false);
    }
}
