/** Promises 8 to 10: states, endings, ending. */
public final class StatesTest {
    private static final Check CHECK = new Check("StatesTest");

    public static void main(String[] args) {
        statesOfLocalCodes();
        statesThatAreTheSame();
        statesAtTheLimit();
        statesFromThePresent();
        endingsOfALostUpdate();
        endingsWithAllNumbers();
        endingsStuckAndBad();
        endingsOfAnotherCode();
        endingsOfManyStates();
        CHECK.end();
    }

    private static void endingsAre(String when, ScheduleLab lab, int... want) {
        CHECK.due(when + ": endings()", lab.endings(), want.length);
        for (int k = 0; k < want.length; k++) {
            CHECK.due(when + ": ending(" + k + ")", lab.ending(k), want[k]);
        }
        int[] none = {-1, want.length, want.length + 1, Integer.MIN_VALUE, Integer.MAX_VALUE};
        for (int k : none) {
            CHECK.due(when + ": ending(" + k + ")", lab.ending(k), ScheduleLab.REFUSED);
        }
    }

    private static void statesOfLocalCodes() {
        CHECK.due("one thread", Programs.lab("4,1 4,2 4,3").states(), 4);
        CHECK.due("two threads", Programs.lab("4,1 4,2 | | 4,1 4,2 4,3").states(), 12);
        String five = "5,1 5,1 5,1 5,1 5,1";
        CHECK.due("three", Programs.lab(five + "|" + five + "|" + five).states(), 216);
    }

    private static void statesThatAreTheSame() {
        CHECK.due("two INCs", Programs.lab("3,0 | 3,0").states(), 4);
        CHECK.due("INC and LOAD", Programs.lab("3,0 | 0,0").states(), 5);
        CHECK.due("a lock", Programs.lab("7,0 | 7,0").states(), 3);
        CHECK.due("BAD or not", Programs.lab("3,0 | 0,0 9,0 4,0").states(), 11);
    }

    private static void statesAtTheLimit() {
        String most = "7,0 3,0 1,0 6,3 3,1 | 2,0 3,0 3,0 1,0 2,3 | 10,0 2,0 5,4 2,0 10,0";
        CHECK.due("1200 by the reference", new Reference(Programs.codes(most)).states().size(), 1200);
        CHECK.due("1200 states", Programs.lab(most).states(), 1200);
        CHECK.due("1201 by the reference", new Reference(Programs.codes(Programs.TOO_MANY)).states().size(), 1201);
        ScheduleLab lab = Programs.lab(Programs.TOO_MANY);
        CHECK.due("1201 states", lab.states(), ScheduleLab.MANY);
        Programs.go(lab, 0);
        CHECK.due("fewer after a step", lab.states() > 0, true);
        lab.back();
        CHECK.due("1201 again", lab.states(), ScheduleLab.MANY);
    }

    private static void statesFromThePresent() {
        ScheduleLab lab = Programs.lab("3,0 3,0 | 3,1");
        CHECK.due("from the first", lab.states(), 6);
        Programs.go(lab, 0);
        CHECK.due("after one step", lab.states(), 4);
        Programs.go(lab, 1);
        CHECK.due("after two steps", lab.states(), 2);
        Programs.go(lab, 0);
        CHECK.due("after three steps", lab.states(), 1);
        CHECK.due("states changes nothing", lab.now(0), 2);
        CHECK.due("nor the steps", lab.back(), 2);
    }

    private static void endingsOfALostUpdate() {
        ScheduleLab lab = Programs.lab("0,0 5,1 1,0 | 0,0 5,1 1,0");
        endingsAre("lost update", lab, 1, 2);
        Programs.go(lab, 0, 1);
        endingsAre("both have loaded", lab, 1);
    }

    private static void endingsWithAllNumbers() {
        endingsAre("no code", new ScheduleLab(), 0);
        endingsAre("powers of 8", Programs.lab("3,0 3,1 3,2 3,3"), 1 + 8 + 64 + 512);
        endingsAre("the greatest", Programs.lab("4,7 1,0 1,1 1,2 1,3"), 4095);
        endingsAre("two orders", Programs.lab("4,7 1,3 | 4,5 1,3"), 5 * 512, 7 * 512);
    }

    private static void endingsStuckAndBad() {
        endingsAre("stuck", Programs.lab("7,0 7,0"), 8192);
        endingsAre("bad", Programs.lab("3,2 9,1"), 4096 + 64);
        endingsAre("both", Programs.lab("4,7 1,0 9,1 7,0 7,0"), 8192 + 4096 + 7);
        endingsAre("some", Programs.lab("3,0 | 0,0 9,1"), 1, 4097);
        endingsAre("waits for ever", Programs.lab("7,0 10,0 3,1 | 11,0"), 8, 8192);
    }

    /** What was found for a longer code is not to be seen again. */
    private static void endingsOfAnotherCode() {
        ScheduleLab lab = Programs.lab("3,0");
        endingsAre("one INC", lab, 1);
        lab.clear(0);
        endingsAre("none", lab, 0);
        CHECK.due("one state", lab.states(), 1);
    }

    private static void endingsOfManyStates() {
        ScheduleLab lab = Programs.lab(Programs.TOO_MANY);
        CHECK.due("endings()", lab.endings(), ScheduleLab.MANY);
        CHECK.due("ending(0)", lab.ending(0), ScheduleLab.MANY);
    }
}
