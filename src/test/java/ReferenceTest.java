import java.util.ArrayList;
import java.util.List;

// Long fixed runs of calls, each answer compared with a slow model that works straight from the Terms.
public final class ReferenceTest {
    private static final int RUNS = 150;
    private static final int CALLS = 512;

    private static int wrong = 0;
    private static long state = 20261115L;

    /** A fixed row of numbers, the same in every run of the test. */
    private static int pick(int low, int high) {
        state = state * 6364136223846793005L + 1442695040888963407L;
        return low + (int) ((state >>> 33) % (high - low + 1));
    }

    /** Mostly low .. high, at times just outside, seldom far outside. */
    private static int pickAround(int low, int high) {
        if (pick(0, 39) == 0) {
            return pick(0, 1) == 0 ? Integer.MIN_VALUE : Integer.MAX_VALUE;
        }
        return pick(0, 3) == 0 ? pick(low - 2, high + 2) : pick(low, high);
    }

    private static final class Model {
        final int n;
        final boolean[][] joined;
        final int[] weight;

        Model(int points) {
            n = Math.min(9, Math.max(2, points));
            joined = new boolean[n][n];
            weight = new int[n];
            java.util.Arrays.fill(weight, 1);
        }

        boolean point(int p) {
            return 0 <= p && p < n;
        }

        boolean set(int s) {
            return 0 <= s && s < Math.pow(2, n);
        }

        List<Integer> members(int s) {
            List<Integer> list = new ArrayList<>();
            for (int p = 0; p < n; p++, s /= 2) {
                if (s % 2 == 1) {
                    list.add(p);
                }
            }
            return list;
        }

        boolean clique(int s) {
            for (int p : members(s)) {
                for (int q : members(s)) {
                    if (p != q && !joined[p][q]) {
                        return false;
                    }
                }
            }
            return true;
        }

        List<Integer> allCliques() {
            List<Integer> list = new ArrayList<>();
            for (int s = 0; set(s); s++) {
                if (clique(s)) {
                    list.add(s);
                }
            }
            return list;
        }

        List<Integer> allFull() {
            List<Integer> cliques = allCliques();
            List<Integer> list = new ArrayList<>();
            for (int s : cliques) {
                boolean part = false;
                for (int t : cliques) {
                    part |= s != t && members(t).containsAll(members(s));
                }
                if (!part) {
                    list.add(s);
                }
            }
            return list;
        }

        int weightOf(int s) {
            int sum = 0;
            for (int p : members(s)) {
                sum += weight[p];
            }
            return sum;
        }

        int pairs() {
            int count = 0;
            for (int p = 0; p < n; p++) {
                for (int q = 0; q < p; q++) {
                    count += joined[p][q] ? 1 : 0;
                }
            }
            return count;
        }

        void put(int p, int q, boolean flag) {
            joined[p][q] = flag;
            joined[q][p] = flag;
        }

        /** How many colourings go on from the first `done` colours. */
        int colourings(int k, int[] colour, int done) {
            if (done == n) {
                return 1;
            }
            int count = 0;
            for (int c = 0; c < k; c++) {
                if (fits(colour, done, c)) {
                    colour[done] = c;
                    count += colourings(k, colour, done + 1);
                }
            }
            return count;
        }

        boolean fits(int[] colour, int p, int c) {
            for (int q = 0; q < p; q++) {
                if (joined[p][q] && colour[q] == c) {
                    return false;
                }
            }
            return true;
        }

        /** Is there a colouring that goes on from the first `done` ones, with a and b alike? */
        boolean colourable(int k, int a, int b, int[] colour, int done) {
            if (done == n) {
                return colour[a] == colour[b];
            }
            int used = 0;
            for (int q = 0; q < done; q++) {
                used = Math.max(used, colour[q] + 1);
            }
            // Colours not used yet are all the same, so one of them is enough.
            for (int c = 0; c < Math.min(k, used + 1); c++) {
                if (fits(colour, done, c)) {
                    colour[done] = c;
                    if (colourable(k, a, b, colour, done + 1)) {
                        return true;
                    }
                }
            }
            return false;
        }

        int join(int p, int q, int flag) {
            if (!point(p) || !point(q)) {
                return -1;
            }
            if (p == q) {
                return -2;
            }
            int before = joined[p][q] ? 1 : 0;
            put(p, q, flag != 0);
            return before;
        }

        int weave(int seed, int share) {
            if (seed < 0 || seed > 6) {
                return -1;
            }
            if (share < 0 || share > 7) {
                return -2;
            }
            for (int p = 0; p < n; p++) {
                for (int q = p + 1; q < n; q++) {
                    put(p, q, (p * p + p * q + q * q + seed) % 7 < share);
                }
            }
            return pairs();
        }

        int invert() {
            for (int p = 0; p < n; p++) {
                for (int q = p + 1; q < n; q++) {
                    put(p, q, !joined[p][q]);
                }
            }
            return pairs();
        }

        int weigh(int p, int w) {
            if (!point(p)) {
                return -1;
            }
            if (w < 1 || w > 20) {
                return -2;
            }
            int before = weight[p];
            weight[p] = w;
            return before;
        }

        int joinedTo(int p) {
            if (!point(p)) {
                return -1;
            }
            int sum = 0;
            for (int q = 0; q < n; q++) {
                sum += joined[p][q] ? (int) Math.pow(2, q) : 0;
            }
            return sum;
        }

        int isClique(int s) {
            return !set(s) ? -1 : clique(s) ? 1 : 0;
        }

        int full(int i) {
            List<Integer> list = allFull();
            return i < 0 || i >= list.size() ? -1 : list.get(i);
        }

        int cliques(int k) {
            if (k < 0 || k > 9) {
                return -1;
            }
            return (int) allCliques().stream().filter(s -> members(s).size() == k).count();
        }

        int heaviest() {
            return allCliques().stream().mapToInt(this::weightOf).max().getAsInt();
        }

        int size() {
            return allCliques().stream().mapToInt(s -> members(s).size()).max().getAsInt();
        }

        int bestWith(int s) {
            if (!set(s)) {
                return -1;
            }
            int best = -2;
            for (int t : allCliques()) {
                boolean better = best < 0 || weightOf(t) > weightOf(best)
                        || weightOf(t) == weightOf(best) && t > best;
                if (members(t).containsAll(members(s)) && better) {
                    best = t;
                }
            }
            return best;
        }

        int colours() {
            int k = 0;
            while (!colourable(k, 0, 0, new int[n], 0)) {
                k++;
            }
            return k;
        }

        int colourings(int k) {
            return k < 0 || k > 4 ? -1 : colourings(k, new int[n], 0);
        }

        int alike(int p, int q, int k) {
            if (!point(p) || !point(q)) {
                return -1;
            }
            if (k < 0 || k > 9) {
                return -2;
            }
            return colourable(k, p, q, new int[n], 0) ? 1 : 0;
        }
    }

    private static void due(String call, int got, int want) {
        if (got != want) {
            wrong++;
            System.out.println(call + " answered " + got + ", due is " + want);
        }
    }

    private static void change(String where, CliqueLister x, Model m) {
        int last = m.n - 1;
        int a = pickAround(0, last);
        int b = pickAround(0, last);
        switch (pick(0, 9)) {
            case 0 -> {
                int seed = pickAround(0, 6);
                int share = pickAround(0, 7);
                due(where + "weave(" + seed + ", " + share + ")", x.weave(seed, share), m.weave(seed, share));
            }
            case 1 -> due(where + "invert()", x.invert(), m.invert());
            case 2, 3, 4 -> {
                int w = pickAround(1, pick(0, 1) == 0 ? 3 : 20);
                due(where + "weigh(" + a + ", " + w + ")", x.weigh(a, w), m.weigh(a, w));
            }
            default -> {
                int flag = pick(-1, 2);
                due(where + "join(" + a + ", " + b + ", " + flag + ")", x.join(a, b, flag), m.join(a, b, flag));
            }
        }
    }

    private static void ask(String where, CliqueLister x, Model m) {
        int last = m.n - 1;
        int p = pickAround(0, last);
        int q = pickAround(0, last);
        int s = pickAround(0, (1 << m.n) - 1);
        int k = pickAround(0, 9);
        int few = pickAround(0, 4);
        int i = pickAround(0, 8);
        switch (pick(0, 12)) {
            case 0 -> due(where + "points()", x.points(), m.n);
            case 1 -> due(where + "joinedTo(" + p + ")", x.joinedTo(p), m.joinedTo(p));
            case 2 -> due(where + "isClique(" + s + ")", x.isClique(s), m.isClique(s));
            case 3 -> due(where + "fullCliques()", x.fullCliques(), m.allFull().size());
            case 4 -> due(where + "full(" + i + ")", x.full(i), m.full(i));
            case 5 -> due(where + "cliques(" + k + ")", x.cliques(k), m.cliques(k));
            case 6 -> due(where + "heaviest()", x.heaviest(), m.heaviest());
            case 7 -> due(where + "best()", x.best(), m.bestWith(0));
            case 8 -> due(where + "bestWith(" + s + ")", x.bestWith(s), m.bestWith(s));
            case 9 -> due(where + "size()", x.size(), m.size());
            case 10 -> due(where + "colours()", x.colours(), m.colours());
            case 11 -> due(where + "colourings(" + few + ")", x.colourings(few), m.colourings(few));
            default -> due(where + "alike(" + p + ", " + q + ", " + k + ")", x.alike(p, q, k), m.alike(p, q, k));
        }
    }

    /** Every pair and every weight, read without changing a thing. */
    private static void compareState(String where, CliqueLister x, Model m) {
        for (int p = 0; p < m.n; p++) {
            due(where + "joinedTo(" + p + ")", x.joinedTo(p), m.joinedTo(p));
            due(where + "weigh(" + p + ", same)", x.weigh(p, m.weight[p]), m.weight[p]);
        }
    }

    public static void main(String[] args) {
        for (int run = 0; run < RUNS && wrong < 20; run++) {
            int points = pickAround(2, 9);
            CliqueLister x = new CliqueLister(points);
            Model m = new Model(points);
            int stateCalls = 2 * m.n;
            for (int call = 0; call < CALLS - stateCalls && wrong < 20; call++) {
                String where = "run " + run + ", call " + call + ": ";
                if (pick(0, 1) == 0) {
                    change(where, x, m);
                } else {
                    ask(where, x, m);
                }
            }
            compareState("run " + run + ", at the end: ", x, m);
        }
        if (wrong != 0) {
            System.exit(1);
        }
    }
}
