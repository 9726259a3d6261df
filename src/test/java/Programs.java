/** Programs for the tests, and the numbers of their instructions. */
final class Programs {
    static final int LOAD = 0, STORE = 1, SWAP = 2, INC = 3, SET = 4, ADD = 5;
    static final int SKIP = 6, LOCK = 7, UNLOCK = 8, CHECK = 9, WAIT = 10, NOTIFY = 11;

    /** It has 1201 states, one more than are counted, and 632 kinds of runs. */
    static final String TOO_MANY =
        "3,0 0,2 0,2 0,2 2,2 | 3,1 4,1 2,2 3,2 0,0 | 0,3 0,0 2,0 3,0 3,2";

    private Programs() {
    }

    /** A text has the codes of the threads with bars between, each a row of "op,a". */
    static ScheduleLab lab(String text) {
        ScheduleLab lab = new ScheduleLab();
        int[][][] codes = codes(text);
        for (int t = 0; t < codes.length; t++) {
            for (int[] instruction : codes[t]) {
                lab.add(t, instruction[0], instruction[1]);
            }
        }
        return lab;
    }

    static int[][][] codes(String text) {
        int[][][] codes = {{}, {}, {}};
        String[] parts = text.split("\\|");
        for (int t = 0; t < parts.length; t++) {
            String code = parts[t].trim();
            String[] words = code.isEmpty() ? new String[0] : code.split(" +");
            codes[t] = new int[words.length][];
            for (int k = 0; k < words.length; k++) {
                String[] numbers = words[k].split(",");
                codes[t][k] = new int[] {Integer.parseInt(numbers[0]), Integer.parseInt(numbers[1])};
            }
        }
        return codes;
    }

    static void go(ScheduleLab lab, int... threads) {
        for (int thread : threads) {
            lab.go(thread);
        }
    }
}
