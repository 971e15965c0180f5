import java.util.ArrayList;
import java.util.HashMap;
import java.util.List;
import java.util.Map;

// One method for each sentence of the Terms and for each sentence of the promises that names a boundary case,
// with the sentence above it.
public final class BoundariesTest {
    private static final int MIN = Integer.MIN_VALUE;
    private static final int MAX = Integer.MAX_VALUE;

    // Three states in which a refused call is made; each has something that a change would show in.
    private static final int NEW = 0;
    private static final int WOVEN = 1;
    private static final int ALL_JOINED = 2;
    private static final int STATES = 3;

    private static final Map<String, List<Integer>> UNTOUCHED = new HashMap<>();

    private static int wrong = 0;

    private interface Call {
        int on(CliqueLister x);
    }

    private interface CallWith {
        int on(CliqueLister x, int argument);
    }

    private static void due(String call, int got, int want) {
        if (got != want) {
            wrong++;
            System.out.println(call + " answered " + got + ", due is " + want);
        }
    }

    // ---- objects ----

    private static CliqueLister inState(int state, int points) {
        CliqueLister x = new CliqueLister(points);
        if (state == WOVEN) {
            x.weave(1, 4);
            x.join(0, 1, 1);
            for (int p = 0; p < points; p++) {
                x.weigh(p, 2 + 7 * p % 19);
            }
        }
        if (state == ALL_JOINED) {
            x.weave(0, 7);
            for (int p = 0; p < points; p++) {
                x.weigh(p, 20);
            }
        }
        return x;
    }

    private static CliqueLister allJoined(int points) {
        CliqueLister x = new CliqueLister(points);
        x.weave(0, 7);
        return x;
    }

    private static CliqueLister allJoinedBut(int points, int p, int q) {
        CliqueLister x = allJoined(points);
        x.join(p, q, 0);
        return x;
    }

    /** Three groups of three; points are joined if their groups differ: 27 full cliques, the most there can be. */
    private static CliqueLister threeGroups() {
        CliqueLister x = allJoined(9);
        for (int g = 0; g < 9; g += 3) {
            x.join(g, g + 1, 0);
            x.join(g, g + 2, 0);
            x.join(g + 1, g + 2, 0);
        }
        return x;
    }

    private static int power(int base, int exponent) {
        int product = 1;
        for (int i = 0; i < exponent; i++) {
            product *= base;
        }
        return product;
    }

    // ---- "as if it had not been made" ----

    private static void askSome(CliqueLister x, int n, List<Integer> answers) {
        answers.add(x.points());
        for (int p = 0; p < n; p++) {
            answers.add(x.joinedTo(p));
        }
        answers.add(x.alike(0, n - 1, 2));
        answers.add(x.alike(1, n - 1, 3));
        for (int set = 0; set < 1 << n; set += n < 6 ? 1 : 23) {
            answers.add(x.isClique(set));
            answers.add(x.bestWith(set));
        }
        answers.add(x.fullCliques());
        for (int i = 0; i < 28; i++) {
            answers.add(x.full(i));
        }
        for (int k = 0; k <= 9; k++) {
            answers.add(x.cliques(k));
        }
        for (int k = 0; k <= 4; k++) {
            answers.add(x.colourings(k));
        }
        answers.add(x.heaviest());
        answers.add(x.best());
        answers.add(x.size());
        answers.add(x.colours());
    }

    /** What many calls answer from now on: questions, then changes that answer what was before. */
    private static List<Integer> answersFromNow(CliqueLister x) {
        int n = x.points();
        List<Integer> answers = new ArrayList<>();
        askSome(x, n, answers);
        answers.add(x.invert());
        for (int p = 0; p < n; p++) {
            answers.add(x.weigh(p, 20 - p));
            for (int q = 0; q < p; q++) {
                answers.add(x.join(p, q, (p + q) % 3));
            }
        }
        answers.add(x.best());
        answers.add(x.weave(2, 3));
        askSome(x, n, answers);
        return answers;
    }

    /** What these calls answer on an object of that state to which nothing else was done. */
    private static List<Integer> answersUntouched(int state, int points) {
        // Asked once and kept: hundreds of refused calls are compared with it.
        String key = state + " with " + points;
        return UNTOUCHED.computeIfAbsent(key, made -> answersFromNow(inState(state, points)));
    }

    private static void goesOnAs(int state, int points, String after, CliqueLister x) {
        List<Integer> got = answersFromNow(x);
        List<Integer> want = answersUntouched(state, points);
        if (!got.equals(want)) {
            wrong++;
            System.out.println("after " + after + " the calls answered " + got + ", due is " + want);
        }
    }

    private static void refusedIn(int state, int points, String name, int want, Call call) {
        CliqueLister x = inState(state, points);
        due(name + " in state " + state, call.on(x), want);
        goesOnAs(state, points, name + " in state " + state, x);
    }

    /** The call is refused with `want`, and the calls after it answer as if it had not been made. */
    private static void refused(int points, String name, int want, Call call) {
        for (int state = 0; state < STATES; state++) {
            refusedIn(state, points, name, want, call);
        }
    }

    /** Arguments outside of low .. high: just outside, the least and the greatest, and some that wrap into it. */
    private static List<Integer> outside(int low, int high) {
        List<Integer> list = new ArrayList<>();
        int[] candidates = {MIN, MIN + 1, MIN + low, -256 + low, low - 2, low - 1, -high, high + 1, high + 2,
            32 + low, 64 + low, 256 + low, 512 + low, 65536 + low, 65536 + high, MAX - 1, MAX};
        for (int argument : candidates) {
            if (argument < low || argument > high) {
                list.add(argument);
            }
        }
        return list;
    }

    /** Every argument outside of low .. high is refused; name has a # where the argument stands. */
    private static void refusedOutside(int points, int low, int high, String name, int want, CallWith call) {
        for (int argument : outside(low, high)) {
            refused(points, points + " points, " + name.replace("#", "" + argument), want, x -> call.on(x, argument));
        }
    }

    /** The question answers the same twice, and the calls after it answer as if it had not been asked. */
    private static void changesNothing(int points, String name, Call question) {
        for (int state = 0; state < STATES; state++) {
            CliqueLister x = inState(state, points);
            int first = question.on(x);
            due(name + " for the second time in state " + state, question.on(x), first);
            goesOnAs(state, points, name + " in state " + state, x);
        }
    }

    // ---- Terms ----

    // "There are n POINTS, 0 .. n-1, with WEIGHTS 1 .. 20, all 1 at first."
    private static void weightsAreOneAtFirst() {
        for (int n = 2; n <= 9; n++) {
            due(n + " new points, heaviest()", new CliqueLister(n).heaviest(), 1);
            CliqueLister x = new CliqueLister(n);
            for (int p = 0; p < n; p++) {
                due(n + " new points, weigh(" + p + ", 20)", x.weigh(p, 20), 1);
            }
        }
    }

    // "Any two different points are JOINED or not; none are at first."
    private static void noneAreJoinedAtFirst() {
        for (int n = 2; n <= 9; n++) {
            CliqueLister x = new CliqueLister(n);
            due(n + " new points, cliques(2)", x.cliques(2), 0);
            for (int p = 0; p < n; p++) {
                due(n + " new points, joinedTo(" + p + ")", x.joinedTo(p), 0);
            }
        }
    }

    // "A set of points is written as the sum of 2^p over its members."
    private static void setsAreSums() {
        for (int n = 2; n <= 9; n++) {
            CliqueLister x = new CliqueLister(n);
            x.join(0, n - 1, 1);
            due(n + " points, the first and the last joined, joinedTo(0)", x.joinedTo(0), power(2, n - 1));
            due(n + " points, the first and the last joined, joinedTo(last)", x.joinedTo(n - 1), 1);
            due(n + " points, the first and the last joined, best()", x.best(), 1 + power(2, n - 1));
        }
    }

    // "A CLIQUE is a set any two different members of which are joined"
    private static void everyPairOfACliqueIsJoined() {
        for (int n = 2; n <= 9; n++) {
            int all = power(2, n) - 1;
            for (int q = 1; q < n; q++) {
                for (int p = 0; p < q; p++) {
                    CliqueLister x = allJoinedBut(n, p, q);
                    String name = n + " points, just " + p + " and " + q + " parted, ";
                    due(name + "isClique(all)", x.isClique(all), 0);
                    due(name + "isClique of these two", x.isClique(power(2, p) + power(2, q)), 0);
                    due(name + "isClique of all but " + p, x.isClique(all - power(2, p)), 1);
                    due(name + "isClique of all but " + q, x.isClique(all - power(2, q)), 1);
                }
            }
        }
    }

    // "the empty set and sets of one point are cliques"
    private static void emptySetAndSetsOfOnePointAreCliques() {
        for (int n = 2; n <= 9; n++) {
            for (int state = 0; state < STATES; state++) {
                CliqueLister x = inState(state, n);
                String name = n + " points in state " + state + ", ";
                due(name + "isClique(0)", x.isClique(0), 1);
                due(name + "cliques(0)", x.cliques(0), 1);
                due(name + "cliques(1)", x.cliques(1), n);
                for (int p = 0; p < n; p++) {
                    due(name + "isClique of " + p + " alone", x.isClique(power(2, p)), 1);
                }
            }
            due(n + " new points, isClique(3)", new CliqueLister(n).isClique(3), 0);
        }
    }

    // "A clique is FULL if it is not a proper part of a clique."
    private static void fullIsNoProperPart() {
        for (int n = 2; n <= 9; n++) {
            int all = power(2, n) - 1;
            CliqueLister lone = new CliqueLister(n);
            due(n + " new points, full(0) is not the empty set", lone.full(0), 1);
            due(n + " new points, full(n - 1)", lone.full(n - 1), power(2, n - 1));
            due(n + " joined points, full(0)", allJoined(n).full(0), all);
            due(n + " joined points, fullCliques()", allJoined(n).fullCliques(), 1);
            CliqueLister but = allJoinedBut(n, 0, n - 1);
            due(n + " points, one pair parted, fullCliques()", but.fullCliques(), 2);
            due(n + " points, one pair parted, full(0)", but.full(0), all - power(2, n - 1));
            due(n + " points, one pair parted, full(1)", but.full(1), all - 1);
        }
    }

    // "The weight of a set is the sum of its members' weights."
    private static void weightOfASetIsTheSum() {
        for (int n = 2; n <= 9; n++) {
            CliqueLister x = allJoined(n);
            // No two of these weights are the same, so a weight taken from another point shows.
            int[] weights = {3, 20, 1, 7, 13, 2, 19, 5, 11};
            int sum = 0;
            for (int p = 0; p < n; p++) {
                x.weigh(p, weights[p]);
                sum += weights[p];
            }
            due(n + " joined points of different weights, heaviest()", x.heaviest(), sum);
            for (int p = 0; p < n; p++) {
                for (int q = 0; q < n; q++) {
                    x.join(p, q, 0);
                }
                int rest = sum - weights[p];
                due(n + " points, all joined but " + p + ", heaviest()", x.heaviest(), Math.max(rest, weights[p]));
                for (int q = 0; q < n; q++) {
                    x.join(p, q, 1);
                }
            }
        }
    }

    // "the BETTER one is the one of greater weight, or, with the same weight, the one with the greater number"
    private static void betterByWeightThenByNumber() {
        // The cliques of two and more points are 3 (of 0 and 1) and 12 (of 2 and 3).
        CliqueLister x = new CliqueLister(4);
        x.join(0, 1, 1);
        x.join(2, 3, 1);
        due("same weight 2, best()", x.best(), 12);
        x.weigh(0, 2);
        due("weights 3 and 2, best()", x.best(), 3);
        x.weigh(3, 2);
        due("same weight 3, best()", x.best(), 12);
        x.weigh(2, 20);
        x.weigh(3, 20);
        x.weigh(0, 20);
        x.weigh(1, 19);
        due("weights 39 and 40, best()", x.best(), 12);
        x.weigh(1, 20);
        due("same weight 40, best()", x.best(), 12);
        x.weigh(3, 19);
        due("weights 40 and 39, best()", x.best(), 3);
        due("weights 40 and 39, bestWith(0)", x.bestWith(0), 3);
        // One point against two points of the same weight together.
        CliqueLister y = new CliqueLister(3);
        y.join(0, 1, 1);
        y.weigh(2, 2);
        due("2 against 0 and 1, same weight, best()", y.best(), 4);
        CliqueLister z = new CliqueLister(3);
        z.join(1, 2, 1);
        z.weigh(0, 2);
        due("0 against 1 and 2, same weight, best()", z.best(), 6);
        z.weigh(0, 3);
        due("0 against 1 and 2, greater weight, best()", z.best(), 1);
    }

    // "A COLOURING with k colours gives every point one of k colours such that joined points have different ones."
    private static void colouringsWithNoColourAndWithOne() {
        for (int n = 2; n <= 9; n++) {
            CliqueLister none = new CliqueLister(n);
            due(n + " new points, colourings(0)", none.colourings(0), 0);
            due(n + " new points, colourings(1)", none.colourings(1), 1);
            none.join(0, n - 1, 1);
            due(n + " points, one pair joined, colourings(1)", none.colourings(1), 0);
            due(n + " points, one pair joined, colourings(2)", none.colourings(2), power(2, n - 1));
        }
    }

    // "No question changes anything."
    private static void noQuestionChangesAnything() {
        for (int n : new int[] {2, 5, 9}) {
            int last = n - 1;
            int all = power(2, n) - 1;
            changesNothing(n, "points()", CliqueLister::points);
            changesNothing(n, "joinedTo(0)", x -> x.joinedTo(0));
            changesNothing(n, "joinedTo(last)", x -> x.joinedTo(last));
            changesNothing(n, "isClique(0)", x -> x.isClique(0));
            changesNothing(n, "isClique(all)", x -> x.isClique(all));
            changesNothing(n, "fullCliques()", CliqueLister::fullCliques);
            changesNothing(n, "full(0)", x -> x.full(0));
            changesNothing(n, "full(1)", x -> x.full(1));
            changesNothing(n, "cliques(0)", x -> x.cliques(0));
            changesNothing(n, "cliques(9)", x -> x.cliques(9));
            changesNothing(n, "heaviest()", CliqueLister::heaviest);
            changesNothing(n, "best()", CliqueLister::best);
            changesNothing(n, "bestWith(0)", x -> x.bestWith(0));
            changesNothing(n, "bestWith(all)", x -> x.bestWith(all));
            changesNothing(n, "size()", CliqueLister::size);
            changesNothing(n, "colours()", CliqueLister::colours);
            changesNothing(n, "colourings(0)", x -> x.colourings(0));
            changesNothing(n, "colourings(4)", x -> x.colourings(4));
            changesNothing(n, "alike(0, last, 0)", x -> x.alike(0, last, 0));
            changesNothing(n, "alike(0, last, 9)", x -> x.alike(0, last, 9));
            changesNothing(n, "alike(last, last, 3)", x -> x.alike(last, last, 3));
        }
    }

    // "A refused call changes nothing."
    private static void refusedCallsInARowChangeNothing() {
        for (int n = 2; n <= 9; n++) {
            for (int state = 0; state < STATES; state++) {
                CliqueLister x = inState(state, n);
                String name = n + " points in state " + state + ", ";
                due(name + "join(n, 0, 1)", x.join(n, 0, 1), -1);
                due(name + "join(0, n, 0)", x.join(0, n, 0), -1);
                due(name + "join(0, -1, 1)", x.join(0, -1, 1), -1);
                due(name + "join(1, 1, 1)", x.join(1, 1, 1), -2);
                due(name + "join(1, 1, 0)", x.join(1, 1, 0), -2);
                due(name + "weave(7, 3)", x.weave(7, 3), -1);
                due(name + "weave(-1, 3)", x.weave(-1, 3), -1);
                due(name + "weave(3, 8)", x.weave(3, 8), -2);
                due(name + "weave(3, -1)", x.weave(3, -1), -2);
                due(name + "weigh(n, 7)", x.weigh(n, 7), -1);
                due(name + "weigh(-1, 7)", x.weigh(-1, 7), -1);
                due(name + "weigh(0, 0)", x.weigh(0, 0), -2);
                due(name + "weigh(0, 21)", x.weigh(0, 21), -2);
                due(name + "joinedTo(n)", x.joinedTo(n), -1);
                due(name + "isClique(2^n)", x.isClique(power(2, n)), -1);
                due(name + "full(-1)", x.full(-1), -1);
                due(name + "cliques(10)", x.cliques(10), -1);
                due(name + "bestWith(2^n)", x.bestWith(power(2, n)), -1);
                due(name + "colourings(5)", x.colourings(5), -1);
                due(name + "alike(0, n, 3)", x.alike(0, n, 3), -1);
                due(name + "alike(0, 1, 10)", x.alike(0, 1, 10), -2);
                goesOnAs(state, n, name + "all refused calls", x);
            }
        }
    }

    // "In every method the tests are made in the order named"
    private static void theTestNamedFirstDecides() {
        for (int n : new int[] {2, 4, 9}) {
            for (int p : outside(0, n - 1)) {
                String name = n + " points, ";
                refused(n, name + "join(" + p + ", itself, 1)", -1, x -> x.join(p, p, 1));
                due(name + "join(" + p + ", itself, 0)", allJoined(n).join(p, p, 0), -1);
                for (int weight : outside(1, 20)) {
                    String call = "weigh(" + p + ", " + weight + ")";
                    due(name + call, inState(WOVEN, n).weigh(p, weight), -1);
                }
                refused(n, name + "weigh(" + p + ", 0)", -1, x -> x.weigh(p, 0));
                refused(n, name + "weigh(" + p + ", 21)", -1, x -> x.weigh(p, 21));
                for (int k : outside(0, 9)) {
                    String rest = ", " + k + ")";
                    due(name + "alike(" + p + ", 0" + rest, inState(WOVEN, n).alike(p, 0, k), -1);
                    due(name + "alike(1, " + p + rest, inState(WOVEN, n).alike(1, p, k), -1);
                    due(name + "alike(" + p + ", itself" + rest, inState(WOVEN, n).alike(p, p, k), -1);
                }
                refused(n, name + "alike(" + p + ", itself, 10)", -1, x -> x.alike(p, p, 10));
            }
            // 0 and 1 are parted in a new object, so no clique has both: -2, were it not for the set.
            int tooGreat = power(2, n) + 3;
            refused(n, n + " points, bestWith(" + tooGreat + ")", -1, x -> x.bestWith(tooGreat));
            refused(n, n + " points, bestWith(-1)", -1, x -> x.bestWith(-1));
        }
        for (int seed : outside(0, 6)) {
            for (int share : outside(0, 7)) {
                String call = "weave(" + seed + ", " + share + ")";
                refused(4, call, -1, x -> x.weave(seed, share));
            }
        }
    }

    // "a point is good if it is 0 .. n-1"
    private static void goodPoints() {
        for (int n = 2; n <= 9; n++) {
            for (int p = 0; p < n; p++) {
                int other = p == 0 ? n - 1 : 0;
                String name = n + " points, ";
                due(name + "join(" + p + ", " + other + ", 1)", new CliqueLister(n).join(p, other, 1), 0);
                due(name + "join(" + other + ", " + p + ", 1)", new CliqueLister(n).join(other, p, 1), 0);
                due(name + "weigh(" + p + ", 5)", new CliqueLister(n).weigh(p, 5), 1);
                due(name + "joinedTo(" + p + ")", new CliqueLister(n).joinedTo(p), 0);
                due(name + "alike(" + p + ", " + other + ", 1)", new CliqueLister(n).alike(p, other, 1), 1);
                due(name + "alike(" + other + ", " + p + ", 1)", new CliqueLister(n).alike(other, p, 1), 1);
            }
            for (int p : new int[] {MIN, -1, n, MAX}) {
                String name = n + " points, ";
                due(name + "join(" + p + ", 0, 1)", new CliqueLister(n).join(p, 0, 1), -1);
                due(name + "join(0, " + p + ", 1)", new CliqueLister(n).join(0, p, 1), -1);
                due(name + "weigh(" + p + ", 5)", new CliqueLister(n).weigh(p, 5), -1);
                due(name + "joinedTo(" + p + ")", new CliqueLister(n).joinedTo(p), -1);
                due(name + "alike(" + p + ", 0, 1)", new CliqueLister(n).alike(p, 0, 1), -1);
                due(name + "alike(0, " + p + ", 1)", new CliqueLister(n).alike(0, p, 1), -1);
            }
        }
    }

    // "a set if it is 0 .. 2^n - 1"
    private static void goodSets() {
        for (int n = 2; n <= 9; n++) {
            CliqueLister x = allJoined(n);
            int all = power(2, n) - 1;
            for (int set : new int[] {0, 1, all - 1, all}) {
                due(n + " joined points, isClique(" + set + ")", x.isClique(set), 1);
                due(n + " joined points, bestWith(" + set + ")", x.bestWith(set), all);
            }
            for (int set : new int[] {MIN, -all, -1, all + 1, 2 * all + 1, MAX}) {
                due(n + " joined points, isClique(" + set + ")", x.isClique(set), -1);
                due(n + " joined points, bestWith(" + set + ")", x.bestWith(set), -1);
            }
        }
    }

    // "An object is used for at most 512 calls after it has been made"
    private static void theLastCallsStillAnswer() {
        CliqueLister x = new CliqueLister(9);
        for (int i = 0; i < 255; i++) {
            x.invert();
            x.colours();
        }
        due("511th call, weigh(8, 20)", x.weigh(8, 20), 1);
        due("512th call, bestWith(256)", x.bestWith(256), 511);
        CliqueLister y = new CliqueLister(9);
        for (int i = 0; i < 511; i++) {
            y.weave(i % 7, i % 8);
        }
        // The 511th was weave(510 modulo 7, 510 modulo 8) = weave(6, 6): it parts just the nine pairs of residue 0.
        due("512th call, invert()", y.invert(), 9);
    }

    // ---- Promises ----

    // 1: "points is n: below 2 becomes 2, above 9 becomes 9."
    private static void newObjectOutsideItsBounds() {
        for (int asked : new int[] {MIN, MIN + 1, MIN + 5, -5, -2, -1, 0, 1, 2}) {
            madeAs(asked, 2);
        }
        for (int asked = 3; asked <= 8; asked++) {
            madeAs(asked, asked);
        }
        for (int asked : new int[] {9, 10, 11, 32, 37, 256 + 5, 65536 + 5, MAX - 1, MAX}) {
            madeAs(asked, 9);
        }
    }

    private static void madeAs(int asked, int n) {
        String name = "new CliqueLister(" + asked + ") ";
        CliqueLister x = new CliqueLister(asked);
        due(name + "points()", x.points(), n);
        due(name + "joinedTo(n - 1)", x.joinedTo(n - 1), 0);
        due(name + "joinedTo(n)", x.joinedTo(n), -1);
        due(name + "isClique(2^n - 1)", x.isClique(power(2, n) - 1), 0);
        due(name + "isClique(2^n)", x.isClique(power(2, n)), -1);
        due(name + "cliques(1)", x.cliques(1), n);
        due(name + "fullCliques()", x.fullCliques(), n);
        due(name + "invert()", x.invert(), n * (n - 1) / 2);
        due(name + "colours()", x.colours(), n);
        goesOnAs(NEW, n, name, new CliqueLister(asked));
    }

    // 2: "n", at both ends and whatever was done before.
    private static void pointsAfterChanges() {
        for (int n : new int[] {2, 9}) {
            CliqueLister x = new CliqueLister(n);
            due("points() when new", x.points(), n);
            x.join(0, 1, 1);
            x.invert();
            x.weigh(n - 1, 20);
            x.weave(6, 7);
            x.join(n, n, 1);
            due("points() after changes", x.points(), n);
        }
    }

    // 3: "Joins two points (flag not 0) or parts them (flag 0)."
    private static void joinWithEveryKindOfFlag() {
        for (int flag : new int[] {MIN, MIN + 1, -65536, -256, -2, -1, 1, 2, 256, 65536, 1 << 30, MAX - 1, MAX}) {
            CliqueLister x = new CliqueLister(3);
            due("join(0, 2, " + flag + ")", x.join(0, 2, flag), 0);
            due("joinedTo(0) after join(0, 2, " + flag + ")", x.joinedTo(0), 4);
            due("joinedTo(2) after join(0, 2, " + flag + ")", x.joinedTo(2), 1);
            due("join(2, 0, " + flag + ") for the second time", x.join(2, 0, flag), 1);
            due("joinedTo(0) after it", x.joinedTo(0), 4);
            due("joinedTo(1) after it", x.joinedTo(1), 0);
        }
        CliqueLister y = allJoined(3);
        due("join(0, 2, 0)", y.join(0, 2, 0), 1);
        due("joinedTo(0) after join(0, 2, 0)", y.joinedTo(0), 2);
        due("joinedTo(2) after join(0, 2, 0)", y.joinedTo(2), 2);
        due("join(2, 0, 0) for the second time", y.join(2, 0, 0), 0);
        due("joinedTo(0) after it", y.joinedTo(0), 2);
        due("joinedTo(1) after it", y.joinedTo(1), 5);
    }

    // 3: "-1 if p or q is not good"
    private static void joinWithBadPoints() {
        for (int n : new int[] {2, 4, 9}) {
            int last = n - 1;
            refusedOutside(n, 0, last, "join(#, 0, 1)", -1, (x, p) -> x.join(p, 0, 1));
            refusedOutside(n, 0, last, "join(last, #, 1)", -1, (x, q) -> x.join(last, q, 1));
            refusedOutside(n, 0, last, "join(#, 1, 0)", -1, (x, p) -> x.join(p, 1, 0));
            refusedOutside(n, 0, last, "join(0, #, 0)", -1, (x, q) -> x.join(0, q, 0));
            due(n + " points, join(-1, n, 1)", new CliqueLister(n).join(-1, n, 1), -1);
            due(n + " points, join(max, min, 0)", new CliqueLister(n).join(MAX, MIN, 0), -1);
            due(n + " points, join(0, last, 1)", new CliqueLister(n).join(0, last, 1), 0);
            due(n + " points, join(last, 0, 1)", allJoined(n).join(last, 0, 1), 1);
        }
    }

    // 3: "-2 if they are the same"
    private static void joinWithTheSamePoint() {
        for (int n : new int[] {2, 4, 9}) {
            for (int p = 0; p < n; p++) {
                int same = p;
                refused(n, n + " points, join(" + p + ", " + p + ", 1)", -2, x -> x.join(same, same, 1));
                refused(n, n + " points, join(" + p + ", " + p + ", 0)", -2, x -> x.join(same, same, 0));
            }
        }
    }

    // 4: "-1 if seed is not in 0 .. 6"
    private static void weaveWithBadSeed() {
        for (int n : new int[] {2, 4, 9}) {
            refusedOutside(n, 0, 6, "weave(#, 0)", -1, (x, seed) -> x.weave(seed, 0));
            refusedOutside(n, 0, 6, "weave(#, 3)", -1, (x, seed) -> x.weave(seed, 3));
            refusedOutside(n, 0, 6, "weave(#, 7)", -1, (x, seed) -> x.weave(seed, 7));
        }
    }

    // 4: "-2 if share is not in 0 .. 7"
    private static void weaveWithBadShare() {
        for (int n : new int[] {2, 4, 9}) {
            refusedOutside(n, 0, 7, "weave(0, #)", -2, (x, share) -> x.weave(0, share));
            refusedOutside(n, 0, 7, "weave(6, #)", -2, (x, share) -> x.weave(6, share));
        }
    }

    // 4: "joins p and q if (p * p + p * q + q * q + seed) modulo 7 is less than share, else parts them"
    private static void weaveWithEverySeedAndShare() {
        // (p * p + p * q + q * q) modulo 7 in row q and column p; the row of 0 is empty.
        int[][] residues = {{}, {1}, {4, 0}, {2, 6, 5}, {2, 0, 0, 2}, {4, 3, 4, 0, 5}, {1, 1, 3, 0, 6, 0},
            {0, 1, 4, 2, 2, 4, 1}, {1, 3, 0, 6, 0, 3, 1, 1}};
        for (int n = 2; n <= 9; n++) {
            for (int seed = 0; seed <= 6; seed++) {
                for (int share = 0; share <= 7; share++) {
                    // From both sides: with all parted before, and with all joined before.
                    wovenAs(residues, new CliqueLister(n), seed, share);
                    wovenAs(residues, allJoined(n), seed, share);
                }
            }
        }
    }

    private static void wovenAs(int[][] residues, CliqueLister x, int seed, int share) {
        int n = x.points();
        int[] joined = new int[n];
        int pairs = 0;
        for (int q = 0; q < n; q++) {
            for (int p = 0; p < q; p++) {
                int shifted = residues[q][p] + seed;
                if ((shifted >= 7 ? shifted - 7 : shifted) < share) {
                    joined[p] += power(2, q);
                    joined[q] += power(2, p);
                    pairs++;
                }
            }
        }
        String call = n + " points, weave(" + seed + ", " + share + ")";
        due(call, x.weave(seed, share), pairs);
        for (int p = 0; p < n; p++) {
            due(call + " joinedTo(" + p + ")", x.joinedTo(p), joined[p]);
        }
    }

    // 4: share 0 parts all pairs and share 7 joins all, whatever the seed.
    private static void weaveNoneAndAll() {
        for (int n = 2; n <= 9; n++) {
            for (int seed = 0; seed <= 6; seed++) {
                due(n + " points, weave(" + seed + ", 0)", allJoined(n).weave(seed, 0), 0);
                due(n + " points, weave(" + seed + ", 7)", new CliqueLister(n).weave(seed, 7), n * (n - 1) / 2);
            }
        }
    }

    // 5: "All joined pairs become parted, and all parted ones joined; answers how many pairs are joined now."
    private static void invertNoneAndAll() {
        for (int n = 2; n <= 9; n++) {
            int all = power(2, n) - 1;
            CliqueLister x = new CliqueLister(n);
            due(n + " parted points, invert()", x.invert(), n * (n - 1) / 2);
            for (int p = 0; p < n; p++) {
                due(n + " points, joinedTo(" + p + ") has not itself", x.joinedTo(p), all - power(2, p));
            }
            due(n + " joined points, invert()", x.invert(), 0);
            for (int p = 0; p < n; p++) {
                due(n + " points, joinedTo(" + p + ") has none", x.joinedTo(p), 0);
            }
            x.join(0, n - 1, 1);
            due(n + " points, one pair joined, invert()", x.invert(), n * (n - 1) / 2 - 1);
            due(n + " points, join(0, last, 1) after it", x.join(0, n - 1, 1), 0);
        }
    }

    // 6: "-1 if p is not good"
    private static void weighABadPoint() {
        for (int n : new int[] {2, 4, 9}) {
            refusedOutside(n, 0, n - 1, "weigh(#, 1)", -1, (x, p) -> x.weigh(p, 1));
            refusedOutside(n, 0, n - 1, "weigh(#, 20)", -1, (x, p) -> x.weigh(p, 20));
        }
    }

    // 6: "-2 if weight is not in 1 .. 20"
    private static void weighWithABadWeight() {
        for (int n : new int[] {2, 4, 9}) {
            int last = n - 1;
            refusedOutside(n, 1, 20, "weigh(0, #)", -2, (x, weight) -> x.weigh(0, weight));
            refusedOutside(n, 1, 20, "weigh(last, #)", -2, (x, weight) -> x.weigh(last, weight));
        }
    }

    // 6: "otherwise answers the one before"
    private static void weighWithEveryWeight() {
        for (int n : new int[] {2, 9}) {
            CliqueLister x = new CliqueLister(n);
            due("weigh(last, 1) when new", x.weigh(n - 1, 1), 1);
            for (int weight = 1; weight <= 20; weight++) {
                due("weigh(last, " + weight + ")", x.weigh(n - 1, weight), weight == 1 ? 1 : weight - 1);
                due("heaviest() with it", x.heaviest(), weight);
            }
            due("weigh(last, 20) for the second time", x.weigh(n - 1, 20), 20);
            due("weigh(last, 1) from 20", x.weigh(n - 1, 1), 20);
            due("weigh(0, 20) is apart from it", x.weigh(0, 20), 1);
        }
    }

    // 7: "-1 if p is not good"
    private static void joinedToABadPoint() {
        for (int n : new int[] {2, 4, 9}) {
            refusedOutside(n, 0, n - 1, "joinedTo(#)", -1, (x, p) -> x.joinedTo(p));
            due(n + " joined points, joinedTo(0)", allJoined(n).joinedTo(0), power(2, n) - 2);
            due(n + " joined points, joinedTo(last)", allJoined(n).joinedTo(n - 1), power(2, n - 1) - 1);
            due(n + " parted points, joinedTo(last)", new CliqueLister(n).joinedTo(n - 1), 0);
        }
    }

    // 8: "-1 if set is not good"
    private static void isCliqueOfABadSet() {
        for (int n : new int[] {2, 4, 9}) {
            refusedOutside(n, 0, power(2, n) - 1, "isClique(#)", -1, (x, set) -> x.isClique(set));
        }
    }

    // 8: "1 if the set is a clique, otherwise 0"
    private static void isCliqueWithOnePairParted() {
        for (int n = 2; n <= 8; n++) {
            CliqueLister x = allJoinedBut(n, 0, n - 1);
            int parted = 1 + power(2, n - 1);
            for (int set = 0; set < power(2, n); set++) {
                int want = (set & parted) == parted ? 0 : 1;
                due(n + " points, one pair parted, isClique(" + set + ")", x.isClique(set), want);
            }
        }
        CliqueLister nine = allJoinedBut(9, 7, 8);
        due("nine points, one pair parted, isClique(384)", nine.isClique(384), 0);
        due("nine points, one pair parted, isClique(511)", nine.isClique(511), 0);
        due("nine points, one pair parted, isClique(383)", nine.isClique(383), 1);
        due("nine points, one pair parted, isClique(255)", nine.isClique(255), 1);
    }

    // 9: "How many full cliques there are.", from the least to the most that nine points can have.
    private static void fewestAndMostFullCliques() {
        for (int n = 2; n <= 9; n++) {
            due(n + " joined points, fullCliques()", allJoined(n).fullCliques(), 1);
            due(n + " parted points, fullCliques()", new CliqueLister(n).fullCliques(), n);
        }
        due("three groups, fullCliques()", threeGroups().fullCliques(), 27);
    }

    // 10: "-1 if there is no such one."
    private static void fullBeforeTheFirstAndAfterTheLast() {
        for (int n : new int[] {2, 4, 9}) {
            for (int i : outside(0, n - 1)) {
                refusedIn(NEW, n, n + " parted points, full(" + i + ")", -1, x -> x.full(i));
            }
            for (int i : outside(0, 0)) {
                refusedIn(ALL_JOINED, n, n + " joined points, full(" + i + ")", -1, x -> x.full(i));
            }
            due(n + " parted points, full(0)", new CliqueLister(n).full(0), 1);
            due(n + " parted points, full(n - 1)", new CliqueLister(n).full(n - 1), power(2, n - 1));
        }
        for (int i : outside(0, 26)) {
            due("three groups, full(" + i + ")", threeGroups().full(i), -1);
        }
    }

    // 10: "The i-th full clique in rising order of numbers (0 for the first)"
    private static void fullOnesInRisingOrder() {
        CliqueLister x = threeGroups();
        for (int i = 0; i < 27; i++) {
            // The greatest member weighs most in the number, so the last group turns slowest.
            int due = power(2, i % 3) + power(2, 3 + i / 3 % 3) + power(2, 6 + i / 9);
            due("three groups, full(" + i + ")", x.full(i), due);
        }
    }

    // 11: "-1 if k is not in 0 .. 9."
    private static void cliquesOfABadSize() {
        for (int n : new int[] {2, 4, 9}) {
            refusedOutside(n, 0, 9, "cliques(#)", -1, (x, k) -> x.cliques(k));
        }
        for (int n = 2; n <= 9; n++) {
            due(n + " joined points, cliques(0)", allJoined(n).cliques(0), 1);
            due(n + " joined points, cliques(n)", allJoined(n).cliques(n), 1);
            for (int k = n + 1; k <= 9; k++) {
                due(n + " joined points, cliques(" + k + ")", allJoined(n).cliques(k), 0);
            }
        }
    }

    // 12: "The greatest weight of a clique.", from the least to the greatest there can be.
    private static void leastAndGreatestWeight() {
        for (int n = 2; n <= 9; n++) {
            due(n + " parted points of weight 1, heaviest()", new CliqueLister(n).heaviest(), 1);
            due(n + " joined points of weight 1, heaviest()", allJoined(n).heaviest(), n);
            due(n + " joined points of weight 20, heaviest()", inState(ALL_JOINED, n).heaviest(), 20 * n);
        }
    }

    // 13: "The best clique (better than all others)."
    private static void bestOfNoneAndAllJoined() {
        for (int n = 2; n <= 9; n++) {
            CliqueLister x = new CliqueLister(n);
            due(n + " parted points, best()", x.best(), power(2, n - 1));
            x.weigh(0, 2);
            due(n + " parted points, the first heavier, best()", x.best(), 1);
            x.weigh(n - 1, 2);
            due(n + " parted points, the last as heavy, best()", x.best(), power(2, n - 1));
            due(n + " joined points, best()", allJoined(n).best(), power(2, n) - 1);
        }
    }

    // 14: "-1 if set is not good"
    private static void bestWithABadSet() {
        for (int n : new int[] {2, 4, 9}) {
            refusedOutside(n, 0, power(2, n) - 1, "bestWith(#)", -1, (x, set) -> x.bestWith(set));
        }
    }

    // 14: "-2 if there is none."
    private static void bestWithPartedPoints() {
        for (int n = 2; n <= 9; n++) {
            int all = power(2, n) - 1;
            refusedIn(NEW, n, n + " parted points, bestWith(3)", -2, x -> x.bestWith(3));
            refusedIn(NEW, n, n + " parted points, bestWith(all)", -2, x -> x.bestWith(all));
            due(n + " joined points, bestWith(all)", allJoined(n).bestWith(all), all);
            due(n + " parted points, bestWith(1)", new CliqueLister(n).bestWith(1), 1);
            CliqueLister x = allJoinedBut(n, n - 2, n - 1);
            int last = power(2, n - 1);
            int lastButOne = power(2, n - 2);
            due(n + " points, one pair parted, bestWith of it", x.bestWith(last + lastButOne), -2);
            due(n + " points, one pair parted, bestWith(all)", x.bestWith(all), -2);
            due(n + " points, one pair parted, bestWith of its last", x.bestWith(last), all - lastButOne);
            due(n + " points, one pair parted, bestWith of its first", x.bestWith(lastButOne), all - last);
        }
    }

    // 14: "The best clique that has all members of a set.", with the empty set, which all cliques have.
    private static void bestWithTheEmptySet() {
        for (int n = 2; n <= 9; n++) {
            for (int state = 0; state < STATES; state++) {
                int best = inState(state, n).best();
                due(n + " points in state " + state + ", bestWith(0)", inState(state, n).bestWith(0), best);
            }
            due(n + " parted points, bestWith(0)", new CliqueLister(n).bestWith(0), power(2, n - 1));
        }
    }

    // 15: "The greatest number of members of a clique."
    private static void leastAndGreatestSize() {
        for (int n = 2; n <= 9; n++) {
            due(n + " parted points, size()", new CliqueLister(n).size(), 1);
            due(n + " joined points, size()", allJoined(n).size(), n);
            due(n + " points, one pair parted, size()", allJoinedBut(n, 0, n - 1).size(), n - 1);
        }
    }

    // 16: "The least k for which there is a colouring with k colours."
    private static void fewestAndMostColours() {
        for (int n = 2; n <= 9; n++) {
            CliqueLister x = new CliqueLister(n);
            due(n + " parted points, colours()", x.colours(), 1);
            x.join(0, n - 1, 1);
            due(n + " points, one pair joined, colours()", x.colours(), 2);
            due(n + " joined points, colours()", allJoined(n).colours(), n);
            due(n + " points, one pair parted, colours()", allJoinedBut(n, 0, n - 1).colours(), n - 1);
        }
    }

    // 17: "-1 if k is not in 0 .. 4."
    private static void colouringsWithABadNumber() {
        for (int n : new int[] {2, 4, 9}) {
            refusedOutside(n, 0, 4, "colourings(#)", -1, (x, k) -> x.colourings(k));
        }
    }

    // 17: "How many colourings with k colours there are", from none to the most there can be.
    private static void fewestAndMostColourings() {
        for (int n = 2; n <= 9; n++) {
            for (int k = 0; k <= 4; k++) {
                due(n + " parted points, colourings(" + k + ")", new CliqueLister(n).colourings(k), power(k, n));
                // k choices for the first point, one fewer for each after it.
                int choices = 1;
                for (int p = 0; p < n; p++) {
                    choices *= k > p ? k - p : 0;
                }
                due(n + " joined points, colourings(" + k + ")", allJoined(n).colourings(k), choices);
            }
        }
    }

    // 18: "-1 if p or q is not good"
    private static void alikeOfBadPoints() {
        for (int n : new int[] {2, 4, 9}) {
            int last = n - 1;
            refusedOutside(n, 0, last, "alike(#, 0, 3)", -1, (x, p) -> x.alike(p, 0, 3));
            refusedOutside(n, 0, last, "alike(last, #, 3)", -1, (x, q) -> x.alike(last, q, 3));
            refusedOutside(n, 0, last, "alike(#, #, 3)", -1, (x, p) -> x.alike(p, p, 3));
        }
    }

    // 18: "-2 if k is not in 0 .. 9."
    private static void alikeWithABadNumber() {
        for (int n : new int[] {2, 4, 9}) {
            int last = n - 1;
            refusedOutside(n, 0, 9, "alike(0, last, #)", -2, (x, k) -> x.alike(0, last, k));
            refusedOutside(n, 0, 9, "alike(last, last, #)", -2, (x, k) -> x.alike(last, last, k));
        }
    }

    // 18: "1 if some colouring with k colours gives p and q the same colour, otherwise 0."
    private static void alikeWithEveryNumber() {
        for (int n = 2; n <= 9; n++) {
            int last = n - 1;
            for (int k = 0; k <= 9; k++) {
                String call = "alike(0, last, " + k + ")";
                due(n + " parted points, " + call, new CliqueLister(n).alike(0, last, k), k >= 1 ? 1 : 0);
                due(n + " joined points, " + call, allJoined(n).alike(0, last, k), 0);
                // The others and the parted pair need a colour each.
                int enough = k >= n - 1 ? 1 : 0;
                due(n + " points, just they parted, " + call, allJoinedBut(n, 0, last).alike(0, last, k), enough);
            }
        }
    }

    // 18: "(1 for p = q if there is a colouring with k colours.)"
    private static void alikeOfAPointWithItself() {
        for (int n = 2; n <= 9; n++) {
            for (int k = 0; k <= 9; k++) {
                for (int p : new int[] {0, n - 1}) {
                    String call = "alike(" + p + ", " + p + ", " + k + ")";
                    due(n + " parted points, " + call, new CliqueLister(n).alike(p, p, k), k >= 1 ? 1 : 0);
                    due(n + " joined points, " + call, allJoined(n).alike(p, p, k), k >= n ? 1 : 0);
                }
            }
        }
    }

    private static void terms() {
        weightsAreOneAtFirst();
        noneAreJoinedAtFirst();
        setsAreSums();
        everyPairOfACliqueIsJoined();
        emptySetAndSetsOfOnePointAreCliques();
        fullIsNoProperPart();
        weightOfASetIsTheSum();
        betterByWeightThenByNumber();
        colouringsWithNoColourAndWithOne();
        noQuestionChangesAnything();
        refusedCallsInARowChangeNothing();
        theTestNamedFirstDecides();
        goodPoints();
        goodSets();
        theLastCallsStillAnswer();
    }

    private static void promisesOneToEight() {
        newObjectOutsideItsBounds();
        pointsAfterChanges();
        joinWithEveryKindOfFlag();
        joinWithBadPoints();
        joinWithTheSamePoint();
        weaveWithBadSeed();
        weaveWithBadShare();
        weaveWithEverySeedAndShare();
        weaveNoneAndAll();
        invertNoneAndAll();
        weighABadPoint();
        weighWithABadWeight();
        weighWithEveryWeight();
        joinedToABadPoint();
        isCliqueOfABadSet();
        isCliqueWithOnePairParted();
    }

    private static void promisesNineToEighteen() {
        fewestAndMostFullCliques();
        fullBeforeTheFirstAndAfterTheLast();
        fullOnesInRisingOrder();
        cliquesOfABadSize();
        leastAndGreatestWeight();
        bestOfNoneAndAllJoined();
        bestWithABadSet();
        bestWithPartedPoints();
        bestWithTheEmptySet();
        leastAndGreatestSize();
        fewestAndMostColours();
        colouringsWithABadNumber();
        fewestAndMostColourings();
        alikeOfBadPoints();
        alikeWithABadNumber();
        alikeWithEveryNumber();
        alikeOfAPointWithItself();
    }

    public static void main(String[] args) {
        terms();
        promisesOneToEight();
        promisesNineToEighteen();
        if (wrong != 0) {
            System.exit(1);
        }
    }
}
