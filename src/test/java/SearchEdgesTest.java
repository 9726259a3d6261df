/** The edges of promises 8 to 14: the 1200 states, and each REFUSED, MANY and NEVER. */
public final class SearchEdgesTest {
    private static final Check CHECK = new Check("SearchEdgesTest");
    private static final int[] ENDINGS_OF_MOST = {
        576, 640, 4104, 4160, 4168, 4232, 4296, 4608, 4672, 4736, 4800, 8256, 8320, 12288, 12352,
        12416, 12480,
    };

    public static void main(String[] args) {
        oneState();
        statesUpTo1200();
        statesFarAbove();
        statesAfterAStep();
        endingsUpTo1200States();
        leastAndGreatestEndings();
        endingOfNone();
        soonestOfNothing();
        soonestOfThePresent();
        soonestNever();
        soonestUpTo1200States();
        stepOfNothing();
        stepOfNone();
        raceOfNoVariable();
        raceNoMore();
        raceUpTo1200States();
        meetOfNoThread();
        meetOfOneThread();
        meetAtNoPlace();
        meetBehindEachCode();
        meetUpTo1200States();
        askingChangesNothing();
        CHECK.end();
    }

    /** By one change it has a state too many, by another one it has as many as before. */
    private static ScheduleLab oneMore(ScheduleLab most) {
        CHECK.due("one state more", most.change(0, 0, Programs.LOAD, 1), true);
        return most;
    }

    private static ScheduleLab oneLess(ScheduleLab tooMany) {
        CHECK.due("one state less", tooMany.change(0, 0, Programs.SWAP, 1), true);
        return tooMany;
    }

    /** The present one counts too. */
    private static void oneState() {
        CHECK.due("no code", new ScheduleLab().states(), 1);
        ScheduleLab done = Programs.lab("3,0");
        Programs.go(done, 0);
        CHECK.due("DONE", done.states(), 1);
        ScheduleLab stuck = Programs.lab("7,0 7,0");
        CHECK.due("before it is STUCK", stuck.states(), 2);
        Programs.go(stuck, 0);
        CHECK.due("STUCK", stuck.states(), 1);
    }

    private static void statesUpTo1200() {
        CHECK.due("1200 by the reference", new Reference(Programs.codes(Programs.MOST)).states().size(), 1200);
        CHECK.due("1201 by the reference", new Reference(Programs.codes(Programs.TOO_MANY)).states().size(), 1201);
        ScheduleLab lab = Programs.lab(Programs.MOST);
        CHECK.due("1200 states", lab.states(), 1200);
        CHECK.due("1201 states", oneMore(lab).states(), ScheduleLab.MANY);
        CHECK.due("1200 states again", oneLess(lab).states(), 1200);
    }

    private static void statesFarAbove() {
        CHECK.due("still more states", Programs.lab(Programs.MANY_GOOD).states(), ScheduleLab.MANY);
    }

    /** The present state is the one that counts, not the first one. */
    private static void statesAfterAStep() {
        ScheduleLab lab = Programs.lab(Programs.TOO_MANY);
        Reference reference = new Reference(Programs.codes(Programs.TOO_MANY));
        Programs.go(lab, 2);
        reference.go(2);
        CHECK.due("fewer after a step", lab.states(), reference.states().size());
        CHECK.due("endings after a step", lab.endings(), reference.endings().size());
        CHECK.due("soonest(0) after a step", lab.soonest(0), 3);
        CHECK.due("race(0) after a step", lab.race(0), 0);
        CHECK.due("meet after a step", lab.meet(0, 0, 1, 0), reference.meet(0, 0, 1, 0));
        lab.back();
        CHECK.due("too many again", lab.states(), ScheduleLab.MANY);
        CHECK.due("endings again", lab.endings(), ScheduleLab.MANY);
    }

    private static void endingsUpTo1200States() {
        ScheduleLab lab = Programs.lab(Programs.MOST);
        CHECK.endingsAre("1200 states", lab, ENDINGS_OF_MOST);
        oneMore(lab);
        CHECK.due("1201 states: endings()", lab.endings(), ScheduleLab.MANY);
        for (int k : new int[] {-1, 0, 15, 16, 17}) {
            CHECK.due("1201 states: ending(" + k + ")", lab.ending(k), ScheduleLab.MANY);
        }
        CHECK.endingsAre("1200 states again", oneLess(lab), ENDINGS_OF_MOST);
    }

    /** All variables 0 and all 7, with each of BAD and STUCK, neither and both. */
    private static void leastAndGreatestEndings() {
        String sevens = "4,7 1,0 1,1 1,2 1,3 | ";
        CHECK.endingsAre("0", Programs.lab("4,7"), 0);
        CHECK.endingsAre("7s", Programs.lab(sevens), 4095);
        CHECK.endingsAre("BAD with 0", Programs.lab("4,7 9,0"), 4096);
        CHECK.endingsAre("BAD with 7s", Programs.lab(sevens + "9,1"), 4096 + 4095);
        CHECK.endingsAre("STUCK with 0", Programs.lab("4,7 7,1 7,1"), 8192);
        CHECK.endingsAre("STUCK with 7s", Programs.lab(sevens + "7,1 7,1"), 8192 + 4095);
        CHECK.endingsAre("both with 0", Programs.lab("9,7 7,0 7,0"), 8192 + 4096);
        CHECK.endingsAre("both with 7s", Programs.lab(sevens + "9,7 7,0 7,0"), 16383);
        CHECK.endingsAre("each variable", Programs.lab("4,7 1,3 1,1"), 7 * 512 + 7 * 8);
    }

    /** Below the least, the only and the last of several, and behind it. */
    private static void endingOfNone() {
        ScheduleLab one = Programs.lab("3,0");
        CHECK.refused("ending(-1) of one", one.ending(-1));
        CHECK.due("ending(0) of one", one.ending(0), 1);
        CHECK.refused("ending(1) of one", one.ending(1));
        ScheduleLab three = Programs.lab("4,1 1,0 | 4,2 1,0 | 4,3 1,0");
        CHECK.refused("ending(-1) of three", three.ending(-1));
        CHECK.due("ending(0) of three", three.ending(0), 1);
        CHECK.due("ending(2) of three", three.ending(2), 3);
        CHECK.refused("ending(3) of three", three.ending(3));
        CHECK.endingsAre("three", three, 1, 2, 3);
    }

    private static void soonestOfNothing() {
        ScheduleLab lab = Programs.lab("9,1 | 7,0 7,0");
        CHECK.due("soonest(0)", lab.soonest(0), 1);
        CHECK.due("soonest(3)", lab.soonest(3), ScheduleLab.NEVER);
        for (int what : Programs.outside(0, 3)) {
            CHECK.refused("soonest(" + what + ")", lab.soonest(what));
            CHECK.refused("new soonest(" + what + ")", new ScheduleLab().soonest(what));
        }
    }

    /** What is sought is there already: no step leads to it. */
    private static void soonestOfThePresent() {
        ScheduleLab stuck = Programs.lab("9,1 7,0 7,0");
        Programs.go(stuck, 0);
        CHECK.wayIs("BAD", stuck, 0);
        CHECK.wayIs("not yet STUCK", stuck, 1, 0);
        Programs.go(stuck, 0);
        CHECK.wayIs("BAD still", stuck, 0);
        CHECK.wayIs("STUCK", stuck, 1);
        CHECK.wayIs("DONE", new ScheduleLab(), 2);
        CHECK.wayIs("DONE and not BAD", new ScheduleLab(), 3);
        ScheduleLab bad = Programs.lab("9,1");
        Programs.go(bad, 0);
        CHECK.wayIs("DONE and BAD", bad, 2);
        CHECK.isNever("DONE and BAD", bad, 3);
    }

    private static void soonestNever() {
        ScheduleLab good = Programs.lab("9,0 3,0");
        CHECK.isNever("not BAD", good, 0);
        CHECK.isNever("not STUCK", good, 1);
        ScheduleLab stuck = Programs.lab("7,0 7,0");
        CHECK.isNever("not DONE", stuck, 2);
        CHECK.isNever("not DONE and not BAD", stuck, 3);
        ScheduleLab passed = Programs.lab("0,0 9,0 | 3,0");
        CHECK.wayIs("BAD at first", passed, 0, 1, 0, 0);
        Programs.go(passed, 0);
        CHECK.isNever("BAD no more", passed, 0);
    }

    private static void soonestUpTo1200States() {
        ScheduleLab lab = Programs.lab(Programs.MOST);
        waysOfMost("1200 states", lab);
        oneMore(lab);
        for (int what = 0; what < 4; what++) {
            CHECK.due("1201 states: soonest(" + what + ")", lab.soonest(what), ScheduleLab.MANY);
            for (int k : new int[] {-1, 0, 2, 3, 15, 16}) {
                CHECK.due("1201 states: step(" + what + ", " + k + ")", lab.step(what, k), ScheduleLab.MANY);
            }
        }
        waysOfMost("1200 states again", oneLess(lab));
    }

    private static void waysOfMost(String when, ScheduleLab lab) {
        CHECK.wayIs(when, lab, 0, 0, 0, 0);
        CHECK.wayIs(when, lab, 1, 0, 0, 0, 0, 0, 1, 1, 1, 1, 1, 2, 2, 2, 2);
        CHECK.wayIs(when, lab, 2, 0, 0, 0, 0, 0, 1, 2, 2, 2, 2, 1, 1, 1, 1, 2, 2);
        CHECK.wayIs(when, lab, 3, 0, 1, 2, 2, 0, 0, 0, 0, 2, 2, 1, 1, 1, 1, 2, 2);
    }

    private static void stepOfNothing() {
        ScheduleLab lab = Programs.lab("9,1 | 7,0 7,0");
        for (int what : Programs.outside(0, 3)) {
            for (int k = -1; k <= 1; k++) {
                CHECK.refused("step(" + what + ", " + k + ")", lab.step(what, k));
            }
        }
    }

    /** Below the first and behind the last one of ways of none, of one and of several steps. */
    private static void stepOfNone() {
        CHECK.refused("step(2, -1) of none", new ScheduleLab().step(2, -1));
        CHECK.refused("step(2, 0) of none", new ScheduleLab().step(2, 0));
        ScheduleLab lab = Programs.lab("| 9,1 4,2 | 4,1");
        CHECK.refused("step(0, -1) of one", lab.step(0, -1));
        CHECK.due("step(0, 0) of one", lab.step(0, 0), 1);
        CHECK.refused("step(0, 1) of one", lab.step(0, 1));
        CHECK.refused("step(2, -1) of three", lab.step(2, -1));
        CHECK.due("step(2, 0) of three", lab.step(2, 0), 1);
        CHECK.due("step(2, 2) of three", lab.step(2, 2), 2);
        CHECK.refused("step(2, 3) of three", lab.step(2, 3));
    }

    private static void raceOfNoVariable() {
        ScheduleLab lab = Programs.lab("3,0 3,3 | 3,0 3,3");
        CHECK.due("race(0)", lab.race(0), 1);
        CHECK.due("race(1)", lab.race(1), 0);
        CHECK.due("race(2)", lab.race(2), 0);
        CHECK.due("race(3)", lab.race(3), 1);
        for (int v : Programs.outside(0, 3)) {
            CHECK.refused("race(" + v + ")", lab.race(v));
            CHECK.refused("new race(" + v + ")", new ScheduleLab().race(v));
        }
        for (int v = 0; v < 4; v++) {
            CHECK.due("new race(" + v + ")", new ScheduleLab().race(v), 0);
        }
    }

    /** A state that came on the way can't come again. */
    private static void raceNoMore() {
        ScheduleLab lab = Programs.lab("4,0 3,0 | 3,0");
        CHECK.due("race(0) at first", lab.race(0), 1);
        Programs.go(lab, 0, 0, 1);
        CHECK.due("race(0) at the end", lab.race(0), 0);
        CHECK.due("race(0) of one thread", Programs.lab("| 3,0 3,0").race(0), 0);
    }

    private static void raceUpTo1200States() {
        ScheduleLab lab = Programs.lab(Programs.MOST);
        for (int v = 0; v < 4; v++) {
            CHECK.due("1200 states: race(" + v + ")", lab.race(v), v == 0 ? 0 : 1);
        }
        oneMore(lab);
        for (int v = 0; v < 4; v++) {
            CHECK.due("1201 states: race(" + v + ")", lab.race(v), ScheduleLab.MANY);
        }
    }

    private static void meetOfNoThread() {
        ScheduleLab lab = Programs.lab("3,0 | 3,0 | 3,0");
        for (int t = 0; t < 3; t++) {
            CHECK.due("meet of " + t, lab.meet(t, 0, (t + 1) % 3, 0), 2);
            CHECK.due("meet with " + t, lab.meet((t + 2) % 3, 0, t, 0), 2);
            for (int none : Programs.outside(0, 2)) {
                CHECK.refused("meet of " + t + " and " + none, lab.meet(t, 0, none, 0));
                CHECK.refused("meet of " + none + " and " + t, lab.meet(none, 0, t, 0));
                CHECK.refused("meet of " + none + " twice", lab.meet(none, 0, none, 0));
            }
        }
    }

    private static void meetOfOneThread() {
        ScheduleLab lab = Programs.lab("3,0 3,0 | 3,0 3,0 | 3,0 3,0");
        for (int t = 0; t < 3; t++) {
            CHECK.refused("meet of " + t + " at one place", lab.meet(t, 1, t, 1));
            CHECK.refused("meet of " + t + " at two places", lab.meet(t, 0, t, 5));
        }
    }

    private static void meetAtNoPlace() {
        ScheduleLab lab = Programs.lab("4,0 4,0 4,0 4,0 4,0 | 4,0 4,0 4,0 4,0 4,0");
        for (int i = 0; i <= 5; i++) {
            for (int none : Programs.outside(0, 5)) {
                CHECK.refused("meet at " + i + " and " + none, lab.meet(0, i, 1, none));
                CHECK.refused("meet at " + none + " and " + i, lab.meet(0, none, 1, i));
            }
            for (int j = 0; j <= 5; j++) {
                CHECK.due("meet at " + i + " and " + j, lab.meet(0, i, 1, j), 1);
            }
        }
    }

    /** 5 is behind the code, "whatever its length"; from its length up to 4 there is no place. */
    private static void meetBehindEachCode() {
        for (int length = 0; length <= 5; length++) {
            ScheduleLab lab = Programs.lab("4,0 ".repeat(length) + " | 4,0 4,0");
            for (int i = 0; i <= 5; i++) {
                int want = i < length || i == 5 ? 1 : 0;
                CHECK.due("0 at " + i + " of " + length, lab.meet(0, i, 1, 1), want);
                CHECK.due("the same turned", lab.meet(1, 1, 0, i), want);
                CHECK.due("both with 2 behind no code", lab.meet(2, 5, 0, i), 3 * want);
            }
        }
    }

    private static void meetUpTo1200States() {
        ScheduleLab lab = Programs.lab(Programs.MOST);
        CHECK.due("1200 states: meet(0, 5, 1, 5)", lab.meet(0, 5, 1, 5), 70);
        CHECK.due("1200 states: meet(2, 3, 0, 0)", lab.meet(2, 3, 0, 0), 16);
        oneMore(lab);
        for (int i = 0; i <= 5; i++) {
            CHECK.due("1201 states: meet at " + i, lab.meet(0, i, 1, 5), ScheduleLab.MANY);
            CHECK.due("1201 states: meet at 0 and " + i, lab.meet(2, 0, 1, i), ScheduleLab.MANY);
        }
        CHECK.due("1200 states again", oneLess(lab).meet(0, 5, 1, 5), 70);
    }

    /** Neither an answer nor a refusal of what is only asked leaves anything. */
    private static void askingChangesNothing() {
        ScheduleLab lab = Programs.busy();
        for (int n = -1; n <= 6; n++) {
            lab.ending(n);
            lab.soonest(n);
            lab.step(n, 0);
            lab.step(2, n);
            lab.race(n);
            lab.meet(n, 0, 1, 0);
            lab.meet(0, 0, 1, n);
        }
        lab.states();
        lab.endings();
        lab.kinds();
        CHECK.isNow("after asking", lab, Programs.BUSY);
        Twins.areSame(CHECK, "after asking", lab, Programs.busy());
    }
}
