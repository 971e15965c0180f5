import java.util.ArrayList;
import java.util.List;
import java.util.Set;
import java.util.TreeSet;

// Fixed runs of 512 calls for each number of points, each answer compared with a slow model that works
// straight from the Terms.
public final class ReferenceTest {
    private static final int RUNS_EACH = 20;
    private static final int CALLS = 512;
    private static final Set<String> FACE = Set.of(
            "points", "join", "weave", "invert", "weigh", "joinedTo", "isClique", "fullCliques", "full",
            "cliques", "heaviest", "best", "bestWith", "size", "colours", "colourings", "alike");

    private static int wrong = 0;
    private static int calls = 0;
    private static final Set<String> called = new TreeSet<>();
    private static long state = 20261115L;

    /** A fixed row of numbers, the same in every run of the test. */
    private static int pick(int low, int high) {
        state = state * 6364136223846793005L + 1442695040888963407L;
        return low + (int) ((state >>> 33) % (high - low + 1));
    }

    /** Mostly low .. high, at times just outside, seldom far outside. */
    private static int pickAround(int low, int high) {
        if (pick(0, 39) == 0) {
            return pick(0, 1) == 0 ? Integer.MIN_VALUE : Integer.MAX_VALUE;
        }
        return pick(0, 3) == 0 ? pick(low - 2, high + 2) : pick(low, high);
    }

    private static final class Model {
        final int n;
        final boolean[][] joined;
        final int[] weight;

        Model(int points) {
            n = Math.min(9, Math.max(2, points));
            joined = new boolean[n][n];
            weight = new int[n];
            java.util.Arrays.fill(weight, 1);
        }

        boolean point(int p) {
            return 0 <= p && p < n;
        }

        boolean set(int s) {
            return 0 <= s && s < Math.pow(2, n);
        }

        List<Integer> members(int s) {
            List<Integer> list = new ArrayList<>();
            for (int p = 0; p < n; p++, s /= 2) {
                if (s % 2 == 1) {
                    list.add(p);
                }
            }
            return list;
        }

        boolean clique(int s) {
            for (int p : members(s)) {
                for (int q : members(s)) {
                    if (p != q && !joined[p][q]) {
                        return false;
                    }
                }
            }
            return true;
        }

        List<Integer> allCliques() {
            List<Integer> list = new ArrayList<>();
            for (int s = 0; set(s); s++) {
                if (clique(s)) {
                    list.add(s);
                }
            }
            return list;
        }

        List<Integer> allFull() {
            List<Integer> cliques = allCliques();
            List<Integer> list = new ArrayList<>();
            for (int s : cliques) {
                boolean part = false;
                for (int t : cliques) {
                    part |= s != t && members(t).containsAll(members(s));
                }
                if (!part) {
                    list.add(s);
                }
            }
            return list;
        }

        int weightOf(int s) {
            int sum = 0;
            for (int p : members(s)) {
                sum += weight[p];
            }
            return sum;
        }

        int pairs() {
            int count = 0;
            for (int p = 0; p < n; p++) {
                for (int q = 0; q < p; q++) {
                    count += joined[p][q] ? 1 : 0;
                }
            }
            return count;
        }

        void put(int p, int q, boolean flag) {
            joined[p][q] = flag;
            joined[q][p] = flag;
        }

        /** How many colourings go on from the first `done` colours. */
        int colourings(int k, int[] colour, int done) {
            if (done == n) {
                return 1;
            }
            int count = 0;
            for (int c = 0; c < k; c++) {
                if (fits(colour, done, c)) {
                    colour[done] = c;
                    count += colourings(k, colour, done + 1);
                }
            }
            return count;
        }

        boolean fits(int[] colour, int p, int c) {
            for (int q = 0; q < p; q++) {
                if (joined[p][q] && colour[q] == c) {
                    return false;
                }
            }
            return true;
        }

        /** Is there a colouring that goes on from the first `done` ones, with a and b alike? */
        boolean colourable(int k, int a, int b, int[] colour, int done) {
            if (done == n) {
                return colour[a] == colour[b];
            }
            int used = 0;
            for (int q = 0; q < done; q++) {
                used = Math.max(used, colour[q] + 1);
            }
            // Colours not used yet are all the same, so one of them is enough.
            for (int c = 0; c < Math.min(k, used + 1); c++) {
                if (fits(colour, done, c)) {
                    colour[done] = c;
                    if (colourable(k, a, b, colour, done + 1)) {
                        return true;
                    }
                }
            }
            return false;
        }

        int join(int p, int q, int flag) {
            if (!point(p) || !point(q)) {
                return -1;
            }
            if (p == q) {
                return -2;
            }
            int before = joined[p][q] ? 1 : 0;
            put(p, q, flag != 0);
            return before;
        }

        int weave(int seed, int share) {
            if (seed < 0 || seed > 6) {
                return -1;
            }
            if (share < 0 || share > 7) {
                return -2;
            }
            for (int p = 0; p < n; p++) {
                for (int q = p + 1; q < n; q++) {
                    put(p, q, (p * p + p * q + q * q + seed) % 7 < share);
                }
            }
            return pairs();
        }

        int invert() {
            for (int p = 0; p < n; p++) {
                for (int q = p + 1; q < n; q++) {
                    put(p, q, !joined[p][q]);
                }
            }
            return pairs();
        }

        int weigh(int p, int w) {
            if (!point(p)) {
                return -1;
            }
            if (w < 1 || w > 20) {
                return -2;
            }
            int before = weight[p];
            weight[p] = w;
            return before;
        }

        int joinedTo(int p) {
            if (!point(p)) {
                return -1;
            }
            int sum = 0;
            for (int q = 0; q < n; q++) {
                sum += joined[p][q] ? (int) Math.pow(2, q) : 0;
            }
            return sum;
        }

        int isClique(int s) {
            return !set(s) ? -1 : clique(s) ? 1 : 0;
        }

        int full(int i) {
            List<Integer> list = allFull();
            return i < 0 || i >= list.size() ? -1 : list.get(i);
        }

        int cliques(int k) {
            if (k < 0 || k > 9) {
                return -1;
            }
            return (int) allCliques().stream().filter(s -> members(s).size() == k).count();
        }

        int heaviest() {
            return allCliques().stream().mapToInt(this::weightOf).max().getAsInt();
        }

        int size() {
            return allCliques().stream().mapToInt(s -> members(s).size()).max().getAsInt();
        }

        int bestWith(int s) {
            if (!set(s)) {
                return -1;
            }
            int best = -2;
            for (int t : allCliques()) {
                boolean better = best < 0 || weightOf(t) > weightOf(best)
                        || weightOf(t) == weightOf(best) && t > best;
                if (members(t).containsAll(members(s)) && better) {
                    best = t;
                }
            }
            return best;
        }

        int colours() {
            int k = 0;
            while (!colourable(k, 0, 0, new int[n], 0)) {
                k++;
            }
            return k;
        }

        int colourings(int k) {
            return k < 0 || k > 4 ? -1 : colourings(k, new int[n], 0);
        }

        int alike(int p, int q, int k) {
            if (!point(p) || !point(q)) {
                return -1;
            }
            if (k < 0 || k > 9) {
                return -2;
            }
            return colourable(k, p, q, new int[n], 0) ? 1 : 0;
        }
    }

    /** One call of a run: counted, and compared with the answer of the model. */
    private static void due(String run, String call, int got, int want) {
        calls++;
        called.add(call.substring(0, call.indexOf('(')));
        if (got != want) {
            wrong++;
            System.out.println(run + ", call " + calls + ": " + call + " answered " + got + ", due is " + want);
        }
    }

    private static void change(String run, CliqueLister x, Model m) {
        int last = m.n - 1;
        int a = pickAround(0, last);
        int b = pickAround(0, last);
        switch (pick(0, 9)) {
            case 0 -> {
                int seed = pickAround(0, 6);
                int share = pickAround(0, 7);
                due(run, "weave(" + seed + ", " + share + ")", x.weave(seed, share), m.weave(seed, share));
            }
            case 1 -> due(run, "invert()", x.invert(), m.invert());
            case 2, 3, 4 -> {
                int w = pickAround(1, pick(0, 1) == 0 ? 3 : 20);
                due(run, "weigh(" + a + ", " + w + ")", x.weigh(a, w), m.weigh(a, w));
            }
            default -> {
                int flag = pick(-1, 2);
                due(run, "join(" + a + ", " + b + ", " + flag + ")", x.join(a, b, flag), m.join(a, b, flag));
            }
        }
    }

    private static void ask(String run, CliqueLister x, Model m) {
        int last = m.n - 1;
        int p = pickAround(0, last);
        int q = pickAround(0, last);
        int s = pickAround(0, (1 << m.n) - 1);
        int k = pickAround(0, 9);
        int few = pickAround(0, 4);
        int i = pickAround(0, m.n);
        switch (pick(0, 12)) {
            case 0 -> due(run, "points()", x.points(), m.n);
            case 1 -> due(run, "joinedTo(" + p + ")", x.joinedTo(p), m.joinedTo(p));
            case 2 -> due(run, "isClique(" + s + ")", x.isClique(s), m.isClique(s));
            case 3 -> due(run, "fullCliques()", x.fullCliques(), m.allFull().size());
            case 4 -> due(run, "full(" + i + ")", x.full(i), m.full(i));
            case 5 -> due(run, "cliques(" + k + ")", x.cliques(k), m.cliques(k));
            case 6 -> due(run, "heaviest()", x.heaviest(), m.heaviest());
            case 7 -> due(run, "best()", x.best(), m.bestWith(0));
            case 8 -> due(run, "bestWith(" + s + ")", x.bestWith(s), m.bestWith(s));
            case 9 -> due(run, "size()", x.size(), m.size());
            case 10 -> due(run, "colours()", x.colours(), m.colours());
            case 11 -> due(run, "colourings(" + few + ")", x.colourings(few), m.colourings(few));
            default -> due(run, "alike(" + p + ", " + q + ", " + k + ")", x.alike(p, q, k), m.alike(p, q, k));
        }
    }

    /** Every pair and every weight, read without changing a thing: 2n calls. */
    private static void compareState(String run, CliqueLister x, Model m) {
        for (int p = 0; p < m.n; p++) {
            int weight = m.weight[p];
            due(run, "joinedTo(" + p + ")", x.joinedTo(p), m.joinedTo(p));
            due(run, "weigh(" + p + ", " + weight + ")", x.weigh(p, weight), m.weigh(p, weight));
        }
    }

    /** A run that is not of 512 calls, or lacks a method, would show less than it is said to. */
    private static void checkRun(String run) {
        if (calls != CALLS || !called.equals(FACE)) {
            wrong++;
            System.out.println(run + " had " + calls + " calls, of " + called);
        }
    }

    private static void run(int points, int number) {
        String run = points + " points, run " + number;
        CliqueLister x = new CliqueLister(points);
        Model m = new Model(points);
        calls = 0;
        called.clear();
        while (calls < CALLS - 2 * m.n) {
            if (pick(0, 1) == 0) {
                change(run, x, m);
            } else {
                ask(run, x, m);
            }
        }
        compareState(run, x, m);
        checkRun(run);
    }

    public static void main(String[] args) {
        for (int points = 2; points <= 9; points++) {
            for (int number = 1; number <= RUNS_EACH && wrong < 20; number++) {
                run(points, number);
            }
        }
        // Numbers of points that become 2 and 9.
        for (int points : new int[] {Integer.MIN_VALUE, 1, 10, Integer.MAX_VALUE}) {
            run(points, 1);
        }
        if (wrong != 0) {
            System.exit(1);
        }
    }
}
