/** Promises 13 and 14 with ordinary inputs: race and meet. */
public final class MeetingsTest {
    private static final Check CHECK = new Check("MeetingsTest");

    public static void main(String[] args) {
        raceOfTwoInstructions();
        raceOfTwoThreads();
        raceFromThePresent();
        meetCounts();
        meetOfOneState();
        CHECK.end();
    }

    /** Only instructions of variable v count that touch, not those of lock v. */
    private static void raceOfTwoInstructions() {
        for (String one : Programs.instructions()) {
            for (String other : Programs.instructions()) {
                int[][][] codes = Programs.codes(one + " | " + other);
                boolean touch = Reference.touch(codes[0][0], codes[1][0]) && codes[0][0][0] <= Programs.INC;
                ScheduleLab lab = Programs.lab(one + " | " + other);
                for (int v = 0; v < 4; v++) {
                    String call = "race(" + v + ") of " + one + " and " + other;
                    CHECK.due(call, lab.race(v), touch && codes[0][0][1] == v ? 1 : 0);
                }
            }
        }
    }

    private static void raceOfTwoThreads() {
        CHECK.due("0 and 1", Programs.lab("3,2 | 3,2").race(2), 1);
        CHECK.due("0 and 2", Programs.lab("3,2 | | 0,2").race(2), 1);
        CHECK.due("1 and 2", Programs.lab("| 0,2 | 3,2").race(2), 1);
        CHECK.due("two variables", Programs.lab("3,2 | 3,3 | 3,1").race(2), 0);
        CHECK.due("one thread", Programs.lab("3,2 3,2").race(2), 0);
        ScheduleLab guarded = Programs.lab("7,0 3,2 8,0 | 7,0 3,2 8,0 | 7,0 0,2 8,0");
        CHECK.due("behind a lock", guarded.race(2), 0);
        guarded.change(1, 0, Programs.LOCK, 1);
        CHECK.due("behind two locks", guarded.race(2), 1);
    }

    private static void raceFromThePresent() {
        ScheduleLab lab = Programs.lab("3,0 3,1 | 3,0");
        CHECK.due("at first", lab.race(0), 1);
        Programs.go(lab, 0);
        CHECK.due("one is past it", lab.race(0), 0);
        lab.back();
        CHECK.due("back again", lab.race(0), 1);
        ScheduleLab later = Programs.lab("4,0 4,0 3,3 | 4,0 0,3");
        CHECK.due("only later", later.race(3), 1);
        ScheduleLab never = Programs.lab("6,1 3,3 | 3,3");
        CHECK.due("passed over", never.race(3), 0);
    }

    private static void meetCounts() {
        ScheduleLab lab = Programs.lab("4,0 4,0 | 4,0 4,0 4,0 | 4,0 4,0 4,0 4,0");
        CHECK.due("0 at 1, 1 at 2", lab.meet(0, 1, 1, 2), 5);
        CHECK.due("1 at 2, 0 at 1", lab.meet(1, 2, 0, 1), 5);
        CHECK.due("2 at 3, 0 at 0", lab.meet(2, 3, 0, 0), 4);
        CHECK.due("1 at 0, 2 at 0", lab.meet(1, 0, 2, 0), 3);
        Programs.go(lab, 0);
        CHECK.due("0 is past 0", lab.meet(2, 3, 0, 0), 0);
        CHECK.due("two places left", lab.meet(1, 0, 2, 0), 2);
        ScheduleLab guarded = Programs.lab("7,0 3,0 8,0 | 7,0 3,0 8,0");
        CHECK.due("both inside", guarded.meet(0, 1, 1, 1), 0);
        CHECK.due("one inside", guarded.meet(0, 1, 1, 0), 1);
        CHECK.due("one after the other", guarded.meet(0, 1, 1, 5), 1);
        ScheduleLab waits = Programs.lab("7,0 10,0 | 11,0");
        CHECK.due("before, waiting, and so before NOTIFY", waits.meet(0, 1, 1, 0), 2);
        CHECK.due("the same and notified", waits.meet(0, 1, 1, 5), 3);
    }

    private static void meetOfOneState() {
        ScheduleLab lab = Programs.lab("3,0 | 0,0");
        CHECK.due("two values loaded", lab.meet(0, 5, 1, 5), 2);
        CHECK.due("not yet loaded", lab.meet(0, 5, 1, 0), 1);
    }
}
