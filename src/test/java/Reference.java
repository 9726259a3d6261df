import java.util.ArrayDeque;
import java.util.ArrayList;
import java.util.Arrays;
import java.util.HashMap;
import java.util.HashSet;
import java.util.List;
import java.util.Map;
import java.util.Set;
import java.util.TreeSet;

/**
 * The document's words taken literally, without regard to speed: all rows of steps are written
 * down, ways are chosen from among the rows, and kinds by exchanging neighbouring steps.
 */
final class Reference {
    private final int[][][] code;
    private final List<Integer> taken = new ArrayList<>();

    Reference(int[][][] code) {
        this.code = code;
    }

    /** A state: 4 variables, 3 ACCs, 3 places, 2 takers, 3 waits, BAD, all as 'now' tells them. */
    private int[] first() {
        int[] state = new int[16];
        for (int t = 0; t < 3; t++) {
            state[7 + t] = code[t].length == 0 ? 5 : 0;
        }
        state[10] = -1;
        state[11] = -1;
        return state;
    }

    private int[] after(int[] start, List<Integer> row) {
        int[] state = start;
        for (int thread : row) {
            state = next(state, thread);
        }
        return state;
    }

    int[] present() {
        return after(first(), taken);
    }

    int go(int thread) {
        if (thread < 0 || thread > 2 || !ready(present(), thread)) {
            return -1;
        }
        taken.add(thread);
        return taken.size();
    }

    int back() {
        if (taken.isEmpty()) {
            return -1;
        }
        taken.remove(taken.size() - 1);
        return taken.size();
    }

    boolean ready(int[] state, int t) {
        if (state[7 + t] == 5 || state[12 + t] == 1) {
            return false;
        }
        int[] instruction = code[t][state[7 + t]];
        if (instruction[0] == 7 || state[12 + t] == 2) {
            return state[10 + instruction[1]] == -1;
        }
        return true;
    }

    int readyThreads(int[] state) {
        return (ready(state, 0) ? 1 : 0) + (ready(state, 1) ? 2 : 0) + (ready(state, 2) ? 4 : 0);
    }

    private int[] next(int[] before, int t) {
        int[] s = before.clone();
        int a = code[t][s[7 + t]][1];
        int passed = 1;
        switch (code[t][s[7 + t]][0]) {
            case 0 -> s[4 + t] = before[a];
            case 1 -> s[a] = before[4 + t];
            case 2 -> {
                s[a] = before[4 + t];
                s[4 + t] = before[a];
            }
            case 3 -> s[a] = (s[a] + 1) & 7;
            case 4 -> s[4 + t] = a;
            case 5 -> s[4 + t] = (s[4 + t] + a) & 7;
            case 6 -> passed = s[4 + t] == 0 ? a + 1 : 1;
            case 7 -> s[10 + a] = t;
            case 8 -> s[10 + a] = s[10 + a] == t ? -1 : s[10 + a];
            case 9 -> s[15] = s[4 + t] == a ? s[15] : 1;
            case 10 -> {
                if (s[12 + t] == 2) {
                    s[12 + t] = 0;
                    s[10 + a] = t;
                } else if (s[10 + a] == t) {
                    s[12 + t] = 1;
                    s[10 + a] = -1;
                    passed = 0;
                }
            }
            default -> {
                for (int u = 0; u < 3; u++) {
                    boolean waitsThere = s[12 + u] == 1 && code[u][s[7 + u]][1] == a;
                    s[12 + u] = waitsThere ? 2 : s[12 + u];
                }
            }
        }
        int place = s[7 + t] + passed;
        s[7 + t] = place >= code[t].length ? 5 : place;
        return s;
    }

    /** The states that can come, by their texts. */
    Map<String, int[]> states() {
        Map<String, int[]> seen = new HashMap<>();
        ArrayDeque<int[]> open = new ArrayDeque<>();
        open.push(present());
        while (!open.isEmpty()) {
            int[] state = open.pop();
            if (seen.put(Arrays.toString(state), state) == null) {
                for (int t = 0; t < 3; t++) {
                    if (ready(state, t)) {
                        open.push(next(state, t));
                    }
                }
            }
        }
        return seen;
    }

    private boolean allEnded(int[] state) {
        return state[7] == 5 && state[8] == 5 && state[9] == 5;
    }

    TreeSet<Integer> endings() {
        TreeSet<Integer> endings = new TreeSet<>();
        for (int[] s : states().values()) {
            if (readyThreads(s) == 0) {
                int variables = s[0] + 8 * s[1] + 64 * s[2] + 512 * s[3];
                endings.add(variables + 4096 * s[15] + (allEnded(s) ? 0 : 8192));
            }
        }
        return endings;
    }

    private boolean sought(int[] state, int what) {
        boolean over = readyThreads(state) == 0;
        return switch (what) {
            case 0 -> state[15] == 1;
            case 1 -> over && !allEnded(state);
            case 2 -> over && allEnded(state);
            default -> over && allEnded(state) && state[15] == 0;
        };
    }

    /** All rows from the present state on, whole runs or their beginnings, till there are enough. */
    private void rows(int[] state, String row, List<String> runs, String[] ways, int enough) {
        for (int what = 0; what < 4; what++) {
            if (sought(state, what) && isBetter(row, ways[what])) {
                ways[what] = row;
            }
        }
        if (readyThreads(state) == 0) {
            runs.add(row);
        }
        for (int t = 0; t < 3 && runs.size() < enough; t++) {
            if (ready(state, t)) {
                rows(next(state, t), row + t, runs, ways, enough);
            }
        }
    }

    private static boolean isBetter(String row, String other) {
        if (other == null || row.length() != other.length()) {
            return other == null || row.length() < other.length();
        }
        return row.compareTo(other) < 0;
    }

    /** The way to each of the four goals, or none. */
    String[] ways() {
        String[] ways = new String[4];
        rows(present(), "", new ArrayList<>(), ways, Integer.MAX_VALUE);
        return ways;
    }

    boolean hasMoreRunsThan(int most) {
        List<String> runs = new ArrayList<>();
        rows(present(), "", runs, new String[4], most + 1);
        return runs.size() > most;
    }

    int kinds() {
        List<String> runs = new ArrayList<>();
        rows(present(), "", runs, new String[4], Integer.MAX_VALUE);
        Set<String> left = new HashSet<>(runs);
        int kinds = 0;
        for (String run : runs) {
            if (left.remove(run)) {
                kinds++;
                takeAlike(run, left);
            }
        }
        return kinds;
    }

    private void takeAlike(String run, Set<String> left) {
        ArrayDeque<String> open = new ArrayDeque<>();
        open.push(run);
        while (!open.isEmpty()) {
            String row = open.pop();
            int[][] done = instructions(row);
            for (int k = 0; k + 1 < row.length(); k++) {
                if (row.charAt(k) != row.charAt(k + 1) && !touch(done[k], done[k + 1])) {
                    String other = row.substring(0, k) + row.charAt(k + 1) + row.charAt(k)
                        + row.substring(k + 2);
                    if (left.remove(other)) {
                        open.push(other);
                    }
                }
            }
        }
    }

    private int[][] instructions(String row) {
        int[][] done = new int[row.length()][];
        int[] state = present();
        for (int k = 0; k < done.length; k++) {
            int t = row.charAt(k) - '0';
            done[k] = code[t][state[7 + t]];
            state = next(state, t);
        }
        return done;
    }

    static boolean touch(int[] one, int[] other) {
        Set<Integer> ofLocks = Set.of(7, 8, 10, 11);
        Set<Integer> ofVariables = Set.of(0, 1, 2, 3);
        boolean locks = ofLocks.contains(one[0]) && ofLocks.contains(other[0]);
        boolean variables = ofVariables.contains(one[0]) && ofVariables.contains(other[0]);
        boolean onlyLoads = one[0] == 0 && other[0] == 0;
        return one[1] == other[1] && (locks || variables && !onlyLoads);
    }

    int race(int v) {
        for (int[] s : states().values()) {
            for (int t = 0; t < 3; t++) {
                for (int u = t + 1; u < 3; u++) {
                    if (s[7 + t] < 5 && s[7 + u] < 5) {
                        int[] one = code[t][s[7 + t]];
                        if (one[0] <= 3 && one[1] == v && touch(one, code[u][s[7 + u]])) {
                            return 1;
                        }
                    }
                }
            }
        }
        return 0;
    }

    int meet(int t, int i, int u, int j) {
        int meetings = 0;
        for (int[] s : states().values()) {
            meetings += s[7 + t] == i && s[7 + u] == j ? 1 : 0;
        }
        return meetings;
    }
}
