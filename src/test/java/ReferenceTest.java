import java.util.TreeSet;

/** Promises 5 to 15 against the literal reference, for many made-up programs and walks. */
public final class ReferenceTest {
    private static final Check CHECK = new Check("ReferenceTest");
    private static final int PROGRAMS = 1500;
    private static final int MOST_RUNS = 3000;
    private static final int STEPS = 8;
    private static final int[] CHOICES = {4, 4, 4, 4, 8, 8, 3, 2, 2, 8, 2, 2};
    private static final String[] POOLS = {
        "0 1 2 3 4 5 6 7 8 9 10 11", "7 8 10 11 3", "7 10 11 8", "0 1 3 6 9 5", "0 1 2 3",
        "7 7 10 10 11 11 8 9 0 3", "0 3 4 6 9", "7 8 0 5 1",
    };

    private static long seed = 20261115;

    public static void main(String[] args) {
        for (int n = 0; n < PROGRAMS; n++) {
            compareProgram(n);
        }
        CHECK.end();
    }

    /** A row of numbers that is the same in each run of the test. */
    private static int pick(int below) {
        seed = seed * 6364136223846793005L + 1442695040888963407L;
        return (int) ((seed >>> 33) % below);
    }

    private static String program() {
        String[] pool = POOLS[pick(POOLS.length)].split(" ");
        int variables = 1 + pick(4);
        StringBuilder text = new StringBuilder();
        for (int t = 0; t < 3; t++) {
            int length = pick(6);
            text.append(t == 0 ? "" : " |");
            for (int k = 0; k < length; k++) {
                int op = Integer.parseInt(pool[pick(pool.length)]);
                int a = op == 6 ? 1 + pick(3) : op < 4 ? pick(variables) : pick(CHOICES[op]);
                text.append(" ").append(op).append(",").append(a);
            }
        }
        return text.toString();
    }

    private static void compareProgram(int n) {
        String text = program();
        ScheduleLab lab = Programs.lab(text);
        Reference reference = new Reference(Programs.codes(text));
        compareAll(text, lab, reference);
        for (int k = 0; k < STEPS; k++) {
            int thread = pick(5) - 1;
            if (thread == 3) {
                CHECK.due(text + ": back()", lab.back(), reference.back());
            } else {
                CHECK.due(text + ": go(" + thread + ")", lab.go(thread), reference.go(thread));
            }
            compareNow(text, lab, reference);
        }
        compareAll(text + ", later", lab, reference);
    }

    private static void compareNow(String text, ScheduleLab lab, Reference reference) {
        int[] state = reference.present();
        for (int what = 0; what < 16; what++) {
            CHECK.due(text + ": now(" + what + ")", lab.now(what), state[what]);
        }
        CHECK.due(text + ": now(16)", lab.now(16), reference.readyThreads(state));
    }

    private static void compareAll(String text, ScheduleLab lab, Reference reference) {
        compareNow(text, lab, reference);
        int states = reference.states().size();
        boolean many = states > 1200;
        CHECK.due(text + ": states()", lab.states(), many ? ScheduleLab.MANY : states);
        if (!many) {
            compareEndings(text, lab, reference);
            compareMeetings(text, lab, reference);
        }
        if (!reference.hasMoreRunsThan(MOST_RUNS)) {
            int kinds = reference.kinds();
            CHECK.due(text + ": kinds()", lab.kinds(), kinds > 2000 ? ScheduleLab.MANY : kinds);
            compareWays(text, lab, reference, many);
        }
    }

    private static void compareEndings(String text, ScheduleLab lab, Reference reference) {
        TreeSet<Integer> endings = reference.endings();
        CHECK.due(text + ": endings()", lab.endings(), endings.size());
        int k = 0;
        for (int ending : endings) {
            CHECK.due(text + ": ending(" + k + ")", lab.ending(k), ending);
            k++;
        }
        CHECK.due(text + ": ending(" + k + ")", lab.ending(k), ScheduleLab.REFUSED);
    }

    private static void compareMeetings(String text, ScheduleLab lab, Reference reference) {
        for (int v = 0; v < 4; v++) {
            CHECK.due(text + ": race(" + v + ")", lab.race(v), reference.race(v));
        }
        for (int n = 0; n < 4; n++) {
            int t = pick(3);
            int u = (t + 1 + pick(2)) % 3;
            int i = pick(6);
            int j = pick(6);
            String call = text + ": meet(" + t + ", " + i + ", " + u + ", " + j + ")";
            CHECK.due(call, lab.meet(t, i, u, j), reference.meet(t, i, u, j));
        }
    }

    private static void compareWays(String text, ScheduleLab lab, Reference reference, boolean many) {
        String[] ways = reference.ways();
        for (int what = 0; what < 4; what++) {
            int none = many ? ScheduleLab.MANY : ScheduleLab.NEVER;
            boolean known = !many && ways[what] != null;
            int length = known ? ways[what].length() : none;
            CHECK.due(text + ": soonest(" + what + ")", lab.soonest(what), length);
            for (int k = 0; k < length; k++) {
                int want = ways[what].charAt(k) - '0';
                CHECK.due(text + ": step(" + what + ", " + k + ")", lab.step(what, k), want);
            }
            int past = known ? ScheduleLab.REFUSED : none;
            CHECK.due(text + ": step(" + what + ") past it", lab.step(what, length), past);
        }
    }
}
