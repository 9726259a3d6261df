/** Promises 13 and 14: race and meet. */
public final class MeetingsTest {
    private static final Check CHECK = new Check("MeetingsTest");

    public static void main(String[] args) {
        raceOfTwoOps();
        raceOfTwoThreads();
        raceFromThePresent();
        raceRefuses();
        meetCounts();
        meetBehindTheCode();
        meetOfOneState();
        meetRefuses();
        CHECK.end();
    }

    private static void raceOfTwoOps() {
        for (int op = 0; op < 12; op++) {
            for (int other = 0; other < 12; other++) {
                boolean touches = op <= 3 && other <= 3 && (op != 0 || other != 0);
                ScheduleLab lab = Programs.lab(op + ",1 | " + other + ",1");
                String call = "race(1) of " + op + " and " + other;
                CHECK.due(call, lab.race(1), touches ? 1 : 0);
                CHECK.due("another " + call, lab.race(0), 0);
            }
        }
    }

    private static void raceOfTwoThreads() {
        CHECK.due("0 and 1", Programs.lab("3,2 | 3,2").race(2), 1);
        CHECK.due("0 and 2", Programs.lab("3,2 | | 0,2").race(2), 1);
        CHECK.due("1 and 2", Programs.lab("| 0,2 | 3,2").race(2), 1);
        CHECK.due("two variables", Programs.lab("3,2 | 3,3 | 3,1").race(2), 0);
        CHECK.due("one thread", Programs.lab("3,2 3,2").race(2), 0);
        ScheduleLab guarded = Programs.lab("7,0 3,2 8,0 | 7,0 3,2 8,0 | 7,0 0,2 8,0");
        CHECK.due("behind a lock", guarded.race(2), 0);
        guarded.change(1, 0, Programs.LOCK, 1);
        CHECK.due("behind two locks", guarded.race(2), 1);
    }

    private static void raceFromThePresent() {
        ScheduleLab lab = Programs.lab("3,0 3,1 | 3,0");
        CHECK.due("at first", lab.race(0), 1);
        Programs.go(lab, 0);
        CHECK.due("one is past it", lab.race(0), 0);
        lab.back();
        CHECK.due("back again", lab.race(0), 1);
        ScheduleLab later = Programs.lab("4,0 4,0 3,3 | 4,0 0,3");
        CHECK.due("only later", later.race(3), 1);
        ScheduleLab never = Programs.lab("6,1 3,3 | 3,3");
        CHECK.due("passed over", never.race(3), 0);
    }

    private static void raceRefuses() {
        int[] others = {-1, 4, Integer.MIN_VALUE, Integer.MAX_VALUE};
        for (int v : others) {
            CHECK.due("race(" + v + ")", Programs.lab("3,0 | 3,0").race(v), ScheduleLab.REFUSED);
            CHECK.due("MANY race(" + v + ")", Programs.lab(Programs.TOO_MANY).race(v), ScheduleLab.REFUSED);
        }
        for (int v = 0; v < 4; v++) {
            CHECK.due("MANY race(" + v + ")", Programs.lab(Programs.TOO_MANY).race(v), ScheduleLab.MANY);
        }
    }

    private static void meetCounts() {
        ScheduleLab lab = Programs.lab("4,0 4,0 | 4,0 4,0 4,0 | 4,0 4,0 4,0 4,0");
        CHECK.due("0 at 1, 1 at 2", lab.meet(0, 1, 1, 2), 5);
        CHECK.due("1 at 2, 0 at 1", lab.meet(1, 2, 0, 1), 5);
        CHECK.due("2 at 3, 0 at 0", lab.meet(2, 3, 0, 0), 4);
        CHECK.due("1 at 0, 2 at 0", lab.meet(1, 0, 2, 0), 3);
        Programs.go(lab, 0);
        CHECK.due("0 is past 0", lab.meet(2, 3, 0, 0), 0);
        CHECK.due("two places left", lab.meet(1, 0, 2, 0), 2);
        ScheduleLab guarded = Programs.lab("7,0 3,0 8,0 | 7,0 3,0 8,0");
        CHECK.due("both inside", guarded.meet(0, 1, 1, 1), 0);
        CHECK.due("one inside", guarded.meet(0, 1, 1, 0), 1);
        CHECK.due("one after the other", guarded.meet(0, 1, 1, 5), 1);
        ScheduleLab waits = Programs.lab("7,0 10,0 | 11,0");
        CHECK.due("before, waiting, and so before NOTIFY", waits.meet(0, 1, 1, 0), 2);
        CHECK.due("the same and notified", waits.meet(0, 1, 1, 5), 3);
    }

    private static void meetBehindTheCode() {
        ScheduleLab lab = Programs.lab("4,0 4,0 | 4,0 4,0 4,0 4,0 4,0");
        CHECK.due("both behind", lab.meet(0, 5, 1, 5), 1);
        CHECK.due("no code is behind", lab.meet(1, 0, 2, 5), 3);
        for (int i = 2; i < 5; i++) {
            CHECK.due("no instruction " + i, lab.meet(0, i, 1, 0), 0);
            CHECK.due("no instruction " + i + ", turned", lab.meet(1, 0, 0, i), 0);
        }
        CHECK.due("new object", new ScheduleLab().meet(2, 5, 1, 5), 1);
        CHECK.due("new object at 0", new ScheduleLab().meet(2, 0, 1, 5), 0);
    }

    private static void meetOfOneState() {
        ScheduleLab lab = Programs.lab("3,0 | 0,0");
        CHECK.due("two values loaded", lab.meet(0, 5, 1, 5), 2);
        CHECK.due("not yet loaded", lab.meet(0, 5, 1, 0), 1);
    }

    private static void meetRefuses() {
        ScheduleLab few = Programs.lab("3,0 3,0 | 3,0");
        ScheduleLab many = Programs.lab(Programs.TOO_MANY);
        int[] noThreads = {-1, 3, Integer.MIN_VALUE, Integer.MAX_VALUE};
        int[] noPlaces = {-1, 6, Integer.MIN_VALUE, Integer.MAX_VALUE};
        for (ScheduleLab lab : new ScheduleLab[] {few, many}) {
            for (int t : noThreads) {
                CHECK.due("t is " + t, lab.meet(t, 0, 0, 0), ScheduleLab.REFUSED);
                CHECK.due("u is " + t, lab.meet(0, 0, t, 0), ScheduleLab.REFUSED);
            }
            for (int i : noPlaces) {
                CHECK.due("i is " + i, lab.meet(0, i, 1, 0), ScheduleLab.REFUSED);
                CHECK.due("j is " + i, lab.meet(0, 0, 1, i), ScheduleLab.REFUSED);
            }
            for (int t = 0; t < 3; t++) {
                CHECK.due("both are " + t, lab.meet(t, 0, t, 1), ScheduleLab.REFUSED);
            }
        }
        CHECK.due("MANY", many.meet(0, 0, 1, 0), ScheduleLab.MANY);
        CHECK.due("MANY behind the code", many.meet(0, 5, 2, 5), ScheduleLab.MANY);
    }
}
