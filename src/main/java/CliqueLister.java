/** Groups of points any two of which are joined: all full ones, the heaviest, and colourings. */
public final class CliqueLister {
    private static final int LEAST_POINTS = 2;
    private static final int MOST_POINTS = 9;
    private static final int MOST_SETS = 512;
    private static final int MOST_WEIGHT = 20;
    private static final int WEAVE_MODULUS = 7;
    private static final int MOST_COUNTED_COLOURS = 4;
    private static final int MOST_COLOURS = 9;

    private final int n;
    private final int allPoints;
    private final int[] neighbours = new int[MOST_POINTS];
    private final int[] weights = new int[MOST_POINTS];

    // Room for one question about colourings; every such question fills both anew.
    private final boolean[] oneColourFits = new boolean[MOST_SETS];
    private final int[] ways = new int[MOST_SETS];

    public CliqueLister(int points) {
        n = points < LEAST_POINTS ? LEAST_POINTS : points > MOST_POINTS ? MOST_POINTS : points;
        allPoints = (1 << n) - 1;
        for (int p = 0; p < MOST_POINTS; p++) {
            weights[p] = 1;
        }
    }

    public int points() {
        return n;
    }

    public int join(int p, int q, int flag) {
        if (!isGoodPoint(p) || !isGoodPoint(q)) {
            return -1;
        }
        if (p == q) {
            return -2;
        }
        int before = areJoined(p, q) ? 1 : 0;
        setJoined(p, q, flag != 0);
        return before;
    }

    public int weave(int seed, int share) {
        if (seed < 0 || seed >= WEAVE_MODULUS) {
            return -1;
        }
        if (share < 0 || share > WEAVE_MODULUS) {
            return -2;
        }
        for (int q = 1; q < n; q++) {
            for (int p = 0; p < q; p++) {
                setJoined(p, q, (p * p + p * q + q * q + seed) % WEAVE_MODULUS < share);
            }
        }
        return countCliquesOf(2);
    }

    public int invert() {
        for (int p = 0; p < n; p++) {
            neighbours[p] = (allPoints ^ (1 << p)) & ~neighbours[p];
        }
        return countCliquesOf(2);
    }

    public int weigh(int p, int weight) {
        if (!isGoodPoint(p)) {
            return -1;
        }
        if (weight < 1 || weight > MOST_WEIGHT) {
            return -2;
        }
        int before = weights[p];
        weights[p] = weight;
        return before;
    }

    public int joinedTo(int p) {
        return isGoodPoint(p) ? neighbours[p] : -1;
    }

    public int isClique(int set) {
        if (!isGoodSet(set)) {
            return -1;
        }
        return allJoined(set) ? 1 : 0;
    }

    public int fullCliques() {
        int count = 0;
        for (int set = 0; set <= allPoints; set++) {
            if (isFull(set)) {
                count++;
            }
        }
        return count;
    }

    public int full(int i) {
        int index = 0;
        for (int set = 0; set <= allPoints; set++) {
            if (isFull(set)) {
                if (index == i) {
                    return set;
                }
                index++;
            }
        }
        return -1;
    }

    public int cliques(int k) {
        // The bound is 9 whatever n is: with k above n the answer is 0, not a refusal.
        return k < 0 || k > MOST_POINTS ? -1 : countCliquesOf(k);
    }

    public int heaviest() {
        int set = bestHolding(0);
        return weightOf(set);
    }

    public int best() {
        return bestHolding(0);
    }

    public int bestWith(int set) {
        if (!isGoodSet(set)) {
            return -1;
        }
        // Every part of a clique is a clique, so only a clique is held by one.
        return allJoined(set) ? bestHolding(set) : -2;
    }

    public int size() {
        int most = 0;
        for (int set = 0; set <= allPoints; set++) {
            int members = membersOf(set);
            if (members > most && allJoined(set)) {
                most = members;
            }
        }
        return most;
    }

    public int colours() {
        startColouring(0);
        int k = 0;
        // n colours are always enough: every point can have its own.
        while (k < n && ways[allPoints] == 0) {
            addColour();
            k++;
        }
        return k;
    }

    public int colourings(int k) {
        return k < 0 || k > MOST_COUNTED_COLOURS ? -1 : countColourings(k, 0);
    }

    public int alike(int p, int q, int k) {
        if (!isGoodPoint(p) || !isGoodPoint(q)) {
            return -1;
        }
        if (k < 0 || k > MOST_COLOURS) {
            return -2;
        }
        return countColourings(k, 1 << p | 1 << q) > 0 ? 1 : 0;
    }

    private boolean isGoodPoint(int p) {
        return p >= 0 && p < n;
    }

    private boolean isGoodSet(int set) {
        return set >= 0 && set <= allPoints;
    }

    private static boolean holds(int set, int p) {
        return (set >> p & 1) != 0;
    }

    private boolean areJoined(int p, int q) {
        return holds(neighbours[p], q);
    }

    private void setJoined(int p, int q, boolean joined) {
        if (joined) {
            neighbours[p] |= 1 << q;
            neighbours[q] |= 1 << p;
        } else {
            neighbours[p] &= ~(1 << q);
            neighbours[q] &= ~(1 << p);
        }
    }

    private boolean allJoined(int set) {
        for (int p = 0; p < n; p++) {
            int others = set & ~(1 << p);
            if (holds(set, p) && (neighbours[p] & others) != others) {
                return false;
            }
        }
        return true;
    }

    private boolean noneJoined(int set) {
        for (int p = 0; p < n; p++) {
            if (holds(set, p) && (neighbours[p] & set) != 0) {
                return false;
            }
        }
        return true;
    }

    private boolean isFull(int set) {
        for (int p = 0; p < n; p++) {
            // No point is its own neighbour, so only a point outside the set can pass.
            if ((neighbours[p] & set) == set) {
                return false;
            }
        }
        return allJoined(set);
    }

    private int membersOf(int set) {
        int members = 0;
        for (int p = 0; p < n; p++) {
            if (holds(set, p)) {
                members++;
            }
        }
        return members;
    }

    private int weightOf(int set) {
        int weight = 0;
        for (int p = 0; p < n; p++) {
            if (holds(set, p)) {
                weight += weights[p];
            }
        }
        return weight;
    }

    private int countCliquesOf(int members) {
        int count = 0;
        for (int set = 0; set <= allPoints; set++) {
            if (membersOf(set) == members && allJoined(set)) {
                count++;
            }
        }
        return count;
    }

    /** The best clique that has all members of a clique. */
    private int bestHolding(int clique) {
        int best = clique;
        int bestWeight = weightOf(clique);
        for (int set = clique; set <= allPoints; set++) {
            if ((set & clique) == clique && allJoined(set)) {
                int weight = weightOf(set);
                // Sets come in rising order, so of equal weights the later is the better.
                if (weight >= bestWeight) {
                    best = set;
                    bestWeight = weight;
                }
            }
        }
        return best;
    }

    /** How many colourings with k colours give all members of a set the same colour. */
    private int countColourings(int k, int together) {
        startColouring(together);
        for (int colour = 0; colour < k; colour++) {
            addColour();
        }
        return ways[allPoints];
    }

    /** Makes ways[set] the number of colourings of the set's points with no colours. */
    private void startColouring(int together) {
        for (int set = 0; set <= allPoints; set++) {
            int shared = set & together;
            oneColourFits[set] = (shared == 0 || shared == together) && noneJoined(set);
            ways[set] = 0;
        }
        ways[0] = 1;
    }

    /** Makes ways[set] the number of colourings of the set's points with one colour more. */
    private void addColour() {
        // Downward, because a set's new number needs the old numbers of its parts.
        // The numbers stay within an int: they are at most 9 to the 9th.
        for (int set = allPoints; set >= 0; set--) {
            int sum = 0;
            for (int part = 0; part <= set; part++) {
                if ((part & set) == part && oneColourFits[part]) {
                    sum += ways[set ^ part];
                }
            }
            ways[set] = sum;
        }
    }
}
