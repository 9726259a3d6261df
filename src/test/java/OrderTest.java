/** Promise 16: what is tested first, what sets the present state back, and how numbers begin. */
public final class OrderTest {
    private static final Check CHECK = new Check("OrderTest");

    public static void main(String[] args) {
        constants();
        soonestRefusedBeforeMany();
        soonestManyBeforeNever();
        raceRefusedBeforeMany();
        meetRefusedBeforeMany();
        stepWhatRefusedFirst();
        stepManyBeforeNeverAndRefused();
        stepNeverBeforeRefused();
        stepRefusedLast();
        endingManyBeforeRefused();
        clearOfAnEmptyCodeSetsBack();
        changeToTheSameSetsBack();
        addSetsBack();
        refusedCallsDoNotSetBack();
        changeNumbersFromNone();
        nowNumbersFromNone();
        meetNumbersFromNone();
        CHECK.end();
    }

    private static void constants() {
        CHECK.due("REFUSED", ScheduleLab.REFUSED, -1);
        CHECK.due("MANY", ScheduleLab.MANY, -2);
        CHECK.due("NEVER", ScheduleLab.NEVER, -3);
    }

    private static void soonestRefusedBeforeMany() {
        ScheduleLab lab = Programs.lab(Programs.TOO_MANY);
        for (int what : Programs.outside(0, 3)) {
            CHECK.refused("soonest(" + what + ")", lab.soonest(what));
        }
        CHECK.due("soonest(0)", lab.soonest(0), ScheduleLab.MANY);
        CHECK.due("soonest(3)", lab.soonest(3), ScheduleLab.MANY);
    }

    private static void soonestManyBeforeNever() {
        ScheduleLab lab = Programs.lab(Programs.MANY_GOOD);
        CHECK.due("BAD comes never", lab.soonest(0), ScheduleLab.MANY);
        CHECK.due("STUCK comes never", lab.soonest(1), ScheduleLab.MANY);
        lab.clear(2);
        CHECK.due("BAD, of fewer states", lab.soonest(0), ScheduleLab.NEVER);
        CHECK.due("STUCK, of fewer states", lab.soonest(1), ScheduleLab.NEVER);
    }

    private static void raceRefusedBeforeMany() {
        ScheduleLab lab = Programs.lab(Programs.TOO_MANY);
        for (int v : Programs.outside(0, 3)) {
            CHECK.refused("race(" + v + ")", lab.race(v));
        }
        CHECK.due("race(0)", lab.race(0), ScheduleLab.MANY);
        CHECK.due("race(3)", lab.race(3), ScheduleLab.MANY);
    }

    private static void meetRefusedBeforeMany() {
        ScheduleLab lab = Programs.lab(Programs.TOO_MANY);
        for (int thread : Programs.outside(0, 2)) {
            CHECK.refused("t is " + thread, lab.meet(thread, 0, 1, 0));
            CHECK.refused("u is " + thread, lab.meet(0, 0, thread, 0));
        }
        for (int place : Programs.outside(0, 5)) {
            CHECK.refused("i is " + place, lab.meet(0, place, 1, 0));
            CHECK.refused("j is " + place, lab.meet(0, 0, 1, place));
        }
        for (int t = 0; t < 3; t++) {
            CHECK.refused("both are " + t, lab.meet(t, 0, t, 1));
        }
        CHECK.due("nothing is wrong", lab.meet(0, 0, 1, 0), ScheduleLab.MANY);
        CHECK.due("nothing is wrong behind", lab.meet(2, 5, 1, 5), ScheduleLab.MANY);
    }

    private static void stepWhatRefusedFirst() {
        for (int what : Programs.outside(0, 3)) {
            CHECK.refused("of MANY: step(" + what + ", 0)", Programs.lab(Programs.TOO_MANY).step(what, 0));
            CHECK.refused("of few: step(" + what + ", 0)", Programs.lab("3,0").step(what, 0));
            CHECK.refused("of few: step(" + what + ", -1)", Programs.lab("3,0").step(what, -1));
        }
    }

    private static void stepManyBeforeNeverAndRefused() {
        ScheduleLab good = Programs.lab(Programs.MANY_GOOD);
        CHECK.due("BAD comes never", good.step(0, 0), ScheduleLab.MANY);
        CHECK.due("STUCK comes never", good.step(1, -1), ScheduleLab.MANY);
        ScheduleLab lab = Programs.lab(Programs.TOO_MANY);
        for (int k : Programs.outside(0, 15)) {
            CHECK.due("step(2, " + k + ")", lab.step(2, k), ScheduleLab.MANY);
        }
    }

    private static void stepNeverBeforeRefused() {
        ScheduleLab lab = Programs.lab("3,0");
        for (int k : Programs.outside(0, 0)) {
            CHECK.due("step(0, " + k + ")", lab.step(0, k), ScheduleLab.NEVER);
            CHECK.due("step(1, " + k + ")", lab.step(1, k), ScheduleLab.NEVER);
        }
    }

    private static void stepRefusedLast() {
        ScheduleLab lab = Programs.lab("3,0");
        CHECK.due("step(2, 0)", lab.step(2, 0), 0);
        for (int k : Programs.outside(0, 0)) {
            CHECK.refused("step(2, " + k + ")", lab.step(2, k));
        }
    }

    private static void endingManyBeforeRefused() {
        ScheduleLab lab = Programs.lab(Programs.TOO_MANY);
        for (int k : Programs.outside(0, 15)) {
            CHECK.due("ending(" + k + ")", lab.ending(k), ScheduleLab.MANY);
        }
    }

    private static void clearOfAnEmptyCodeSetsBack() {
        for (int t = 0; t < 3; t++) {
            ScheduleLab lab = Programs.busy();
            lab.clear(t);
            Programs.go(lab, (t + 1) % 3);
            CHECK.due("clear(" + t + ") of an empty code", lab.clear(t), 0);
            CHECK.refused("clear(" + t + ") leaves no step", lab.back());
            ScheduleLab twin = Programs.busy();
            twin.clear(t);
            Twins.areSame(CHECK, "clear(" + t + ") of an empty code", lab, twin);
        }
    }

    private static void changeToTheSameSetsBack() {
        ScheduleLab lab = Programs.busy();
        CHECK.due("change to the same", lab.change(1, 4, Programs.UNLOCK, 1), true);
        CHECK.isNow("change to the same", lab, 0, 0, 0, 0, 0, 0, 0, 0, 0, 0, -1, -1, 0, 0, 0, 0, 7);
        CHECK.refused("it leaves no step", lab.back());
        ScheduleLab twin = Programs.busy();
        for (int n = 0; n < 8; n++) {
            twin.back();
        }
        Twins.areSame(CHECK, "change to the same", lab, twin);
    }

    private static void addSetsBack() {
        ScheduleLab lab = Programs.busy();
        CHECK.due("a fifth", lab.add(2, Programs.LOAD, 0), 5);
        CHECK.isNow("add", lab, 0, 0, 0, 0, 0, 0, 0, 0, 0, 0, -1, -1, 0, 0, 0, 0, 7);
        CHECK.refused("it leaves no step", lab.back());
    }

    private static void refusedCallsDoNotSetBack() {
        ScheduleLab lab = Programs.busy();
        CHECK.refused("a sixth", lab.add(0, Programs.LOAD, 0));
        CHECK.refused("clear(3)", lab.clear(3));
        CHECK.due("change of a fifth of four", lab.change(2, 4, Programs.LOAD, 0), false);
        CHECK.isNow("all refused", lab, Programs.BUSY);
        CHECK.due("eight steps", lab.back(), 7);
    }

    private static void changeNumbersFromNone() {
        ScheduleLab lab = Programs.lab("3,0 3,1");
        CHECK.due("change of 0", lab.change(0, 0, Programs.INC, 2), true);
        CHECK.endingsAre("the first is another one", lab, 64 + 8);
        CHECK.due("change of 1", lab.change(0, 1, Programs.INC, 3), true);
        CHECK.endingsAre("the second is another one", lab, 64 + 512);
    }

    private static void nowNumbersFromNone() {
        ScheduleLab lab = Programs.lab("3,0 3,0 | 3,0");
        CHECK.due("at the first", lab.now(7), 0);
        Programs.go(lab, 0);
        CHECK.due("at the second", lab.now(7), 1);
    }

    private static void meetNumbersFromNone() {
        ScheduleLab lab = Programs.lab("3,0 3,0 | 3,0");
        CHECK.due("both at the first", lab.meet(0, 0, 1, 0), 1);
        Programs.go(lab, 0);
        CHECK.due("one at the first no more", lab.meet(0, 0, 1, 0), 0);
        CHECK.due("one at the second", lab.meet(0, 1, 1, 0), 1);
    }
}
