/** Programs for the tests, and the numbers of their instructions. */
final class Programs {
    static final int LOAD = 0, STORE = 1, SWAP = 2, INC = 3, SET = 4, ADD = 5;
    static final int SKIP = 6, LOCK = 7, UNLOCK = 8, CHECK = 9, WAIT = 10, NOTIFY = 11;

    private static final String REST_OF_MOST =
        " 2,2 9,1 0,2 0,1 | 3,1 11,1 2,3 9,0 2,1 | 7,1 3,2 3,2 10,1 3,3";
    /** It has 1200 states, as many as are counted; by change(0, 0, 0, 1) it becomes the next one. */
    static final String MOST = "2,1" + REST_OF_MOST;
    /** It has 1201 states, one more than are counted, and 129 kinds of runs. */
    static final String TOO_MANY = "0,1" + REST_OF_MOST;
    /** It has still more states, but no LOCK and no CHECK, so that it is never BAD nor STUCK. */
    static final String MANY_GOOD = "3,0 0,0 3,0 2,0 1,0 | 0,0 5,1 1,0 2,0 3,0 | 2,0 3,0 0,0 3,0 2,0";

    private static final String REST_OF_MOST_KINDS =
        " 3,0 | 11,1 7,1 10,1 0,1 | 8,1 11,1 3,0 10,1";
    /** It has 2000 kinds of runs; by change(0, 3, 0, 0) it becomes the next one. */
    static final String MOST_KINDS = "11,1 3,1 8,1 3,1" + REST_OF_MOST_KINDS;
    /** It has 2001 kinds of runs, one more than are counted. */
    static final String TOO_MANY_KINDS = "11,1 3,1 8,1 0,0" + REST_OF_MOST_KINDS;

    /** The least and the greatest number that each instruction can have. */
    private static final int[] LEAST = {0, 0, 0, 0, 0, 0, 1, 0, 0, 0, 0, 0};
    private static final int[] GREATEST = {3, 3, 3, 3, 7, 7, 3, 1, 1, 7, 1, 1};

    private Programs() {
    }

    /** A text has the codes of the threads with bars between, each a row of "op,a". */
    static ScheduleLab lab(String text) {
        ScheduleLab lab = new ScheduleLab();
        int[][][] codes = codes(text);
        for (int t = 0; t < codes.length; t++) {
            for (int[] instruction : codes[t]) {
                lab.add(t, instruction[0], instruction[1]);
            }
        }
        return lab;
    }

    static int[][][] codes(String text) {
        int[][][] codes = {{}, {}, {}};
        String[] parts = text.split("\\|");
        for (int t = 0; t < parts.length; t++) {
            String code = parts[t].trim();
            String[] words = code.isEmpty() ? new String[0] : code.split(" +");
            codes[t] = new int[words.length][];
            for (int k = 0; k < words.length; k++) {
                String[] numbers = words[k].split(",");
                codes[t][k] = new int[] {Integer.parseInt(numbers[0]), Integer.parseInt(numbers[1])};
            }
        }
        return codes;
    }

    /** A text for one thread's code alone. */
    static String only(int thread, String code) {
        return "| ".repeat(thread) + code;
    }

    static void go(ScheduleLab lab, int... threads) {
        for (int thread : threads) {
            lab.go(thread);
        }
    }

    /**
     * Eight steps on the way, with something in each part of the state: variables 0 and 3 and an
     * ACC are not 0, a lock is taken, a thread waits, and it is BAD. Two codes are full.
     */
    static ScheduleLab busy() {
        ScheduleLab lab = lab("4,7 1,0 7,0 10,0 3,1 | 7,1 9,5 3,2 11,0 8,1 | 5,3 2,3 0,0 8,0");
        go(lab, 0, 0, 0, 0, 1, 1, 2, 2);
        return lab;
    }

    static final int[] BUSY = {7, 0, 0, 3, 7, 0, 0, 3, 2, 2, -1, 1, 1, 0, 0, 1, 6};

    /** The nearest numbers outside a range, far ones, and some with the low bits of its least. */
    static int[] outside(int least, int greatest) {
        return new int[] {
            least - 1, greatest + 1, least + 256, least + 65536, Integer.MIN_VALUE, Integer.MAX_VALUE,
        };
    }

    /** All instructions that there are, as "op,a". */
    static String[] instructions() {
        StringBuilder all = new StringBuilder();
        for (int op = 0; op < LEAST.length; op++) {
            for (int a = LEAST[op]; a <= GREATEST[op]; a++) {
                all.append(op).append(",").append(a).append(" ");
            }
        }
        return all.toString().split(" ");
    }

    static int least(int op) {
        return LEAST[op];
    }

    static int greatest(int op) {
        return GREATEST[op];
    }
}
