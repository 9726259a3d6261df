/** Promises 8 to 10 with ordinary inputs: states, endings, ending. */
public final class StatesTest {
    private static final Check CHECK = new Check("StatesTest");

    public static void main(String[] args) {
        statesOfLocalCodes();
        statesThatAreTheSame();
        statesFromThePresent();
        endingsOfALostUpdate();
        endingsOfSeveralOrders();
        endingsStuckAndBad();
        endingsOfAnotherCode();
        CHECK.end();
    }

    private static void statesOfLocalCodes() {
        CHECK.due("one thread", Programs.lab("4,1 4,2 4,3").states(), 4);
        CHECK.due("two threads", Programs.lab("4,1 4,2 | | 4,1 4,2 4,3").states(), 12);
        String five = "5,1 5,1 5,1 5,1 5,1";
        CHECK.due("three", Programs.lab(five + "|" + five + "|" + five).states(), 216);
    }

    private static void statesThatAreTheSame() {
        CHECK.due("two INCs", Programs.lab("3,0 | 3,0").states(), 4);
        CHECK.due("INC and LOAD", Programs.lab("3,0 | 0,0").states(), 5);
        CHECK.due("a lock", Programs.lab("7,0 | 7,0").states(), 3);
        CHECK.due("BAD or not", Programs.lab("3,0 | 0,0 9,0 4,0").states(), 11);
    }

    private static void statesFromThePresent() {
        ScheduleLab lab = Programs.lab("3,0 3,0 | 3,1");
        CHECK.due("from the first", lab.states(), 6);
        Programs.go(lab, 0);
        CHECK.due("after one step", lab.states(), 4);
        Programs.go(lab, 1);
        CHECK.due("after two steps", lab.states(), 2);
        lab.back();
        CHECK.due("after one step again", lab.states(), 4);
    }

    private static void endingsOfALostUpdate() {
        ScheduleLab lab = Programs.lab("0,0 5,1 1,0 | 0,0 5,1 1,0");
        CHECK.endingsAre("lost update", lab, 1, 2);
        Programs.go(lab, 0, 1);
        CHECK.endingsAre("both have loaded", lab, 1);
    }

    private static void endingsOfSeveralOrders() {
        CHECK.endingsAre("powers of 8", Programs.lab("3,0 3,1 3,2 3,3"), 1 + 8 + 64 + 512);
        CHECK.endingsAre("two orders", Programs.lab("4,7 1,3 | 4,5 1,3"), 5 * 512, 7 * 512);
    }

    private static void endingsStuckAndBad() {
        CHECK.endingsAre("bad", Programs.lab("3,2 9,1"), 4096 + 64);
        CHECK.endingsAre("stuck and bad", Programs.lab("4,7 1,0 9,1 7,0 7,0"), 8192 + 4096 + 7);
        CHECK.endingsAre("bad in one order", Programs.lab("3,0 | 0,0 9,1"), 1, 4097);
        CHECK.endingsAre("stuck in one order", Programs.lab("7,0 10,0 3,1 | 11,0"), 8, 8192);
    }

    /** What was found for a longer code is not to be seen again. */
    private static void endingsOfAnotherCode() {
        ScheduleLab lab = Programs.lab("3,0");
        CHECK.endingsAre("one INC", lab, 1);
        lab.clear(0);
        CHECK.endingsAre("none", lab, 0);
        CHECK.due("one state", lab.states(), 1);
    }
}
