// One method for each promise: ordinary inputs, the edges that the document names, and wrong inputs;
// and one for the example of README.md.
public final class PromisesTest {
    private static int wrong = 0;

    private static void due(String call, int got, int want) {
        if (got != want) {
            wrong++;
            System.out.println(call + " answered " + got + ", due is " + want);
        }
    }

    /** A new object in which just the given pairs (p, q, p, q, ..) are joined. */
    private static CliqueLister withPairs(int points, int... ends) {
        CliqueLister x = new CliqueLister(points);
        for (int i = 0; i < ends.length; i += 2) {
            x.join(ends[i], ends[i + 1], 1);
        }
        return x;
    }

    /** 0-1-2-3-4-0: no three are joined in pairs, yet two colours are too few. */
    private static CliqueLister ringOfFive() {
        return withPairs(5, 0, 1, 1, 2, 2, 3, 3, 4, 4, 0);
    }

    /** The triangle 0 1 2, the pair 2 3, and the lone point 4. */
    private static CliqueLister triangleWithTail() {
        return withPairs(5, 0, 1, 0, 2, 1, 2, 2, 3);
    }

    private static CliqueLister allJoined(int points) {
        CliqueLister x = new CliqueLister(points);
        x.weave(0, 7);
        return x;
    }

    private static void newObject() {
        int[] asked = {Integer.MIN_VALUE, -1, 0, 1, 2, 3, 8, 9, 10, 100, Integer.MAX_VALUE};
        int[] made = {2, 2, 2, 2, 2, 3, 8, 9, 9, 9, 9};
        for (int i = 0; i < asked.length; i++) {
            CliqueLister x = new CliqueLister(asked[i]);
            String name = "1: new CliqueLister(" + asked[i] + ") ";
            due(name + "points()", x.points(), made[i]);
            for (int p = 0; p < made[i]; p++) {
                due(name + "joinedTo(" + p + ")", x.joinedTo(p), 0);
                due(name + "weigh(" + p + ", 1)", x.weigh(p, 1), 1);
            }
            due(name + "joinedTo(n)", x.joinedTo(made[i]), -1);
        }
    }

    private static void points() {
        for (int n = 2; n <= 9; n++) {
            CliqueLister x = new CliqueLister(n);
            due("2: points()", x.points(), n);
            x.weave(3, 4);
            x.weigh(0, 20);
            x.invert();
            due("2: points() after changes", x.points(), n);
        }
    }

    private static void join() {
        CliqueLister x = new CliqueLister(4);
        due("3: join(0, 2, 1)", x.join(0, 2, 1), 0);
        due("3: joinedTo(0)", x.joinedTo(0), 4);
        due("3: joinedTo(2)", x.joinedTo(2), 1);
        due("3: join(0, 2, 1) again", x.join(0, 2, 1), 1);
        due("3: join(2, 0, -7)", x.join(2, 0, -7), 1);
        due("3: joinedTo(0) still", x.joinedTo(0), 4);
        due("3: join(3, 0, min)", x.join(3, 0, Integer.MIN_VALUE), 0);
        due("3: joinedTo(0) with 3", x.joinedTo(0), 12);
        due("3: join(2, 0, 0)", x.join(2, 0, 0), 1);
        due("3: join(2, 0, 0) again", x.join(2, 0, 0), 0);
        due("3: joinedTo(0) without 2", x.joinedTo(0), 8);
        due("3: joinedTo(2) without 0", x.joinedTo(2), 0);
        due("3: join(4, 0, 1)", x.join(4, 0, 1), -1);
        due("3: join(0, 4, 1)", x.join(0, 4, 1), -1);
        due("3: join(-1, 0, 1)", x.join(-1, 0, 1), -1);
        due("3: join(0, -1, 1)", x.join(0, -1, 1), -1);
        due("3: join(4, 4, 1)", x.join(4, 4, 1), -1);
        due("3: join(-1, -1, 0)", x.join(-1, -1, 0), -1);
        due("3: join(max, min, 1)", x.join(Integer.MAX_VALUE, Integer.MIN_VALUE, 1), -1);
        due("3: join(1, 1, 1)", x.join(1, 1, 1), -2);
        due("3: join(3, 3, 0)", x.join(3, 3, 0), -2);
        due("3: joinedTo(0) at the end", x.joinedTo(0), 8);
        due("3: joinedTo(1) at the end", x.joinedTo(1), 0);
        due("3: joinedTo(2) at the end", x.joinedTo(2), 0);
        due("3: joinedTo(3) at the end", x.joinedTo(3), 1);
    }

    private static void weave() {
        CliqueLister x = new CliqueLister(4);
        // Modulo 7 with seed 0: 01 is 1, 02 is 4, 03 is 2, 12 is 0, 13 is 6, 23 is 5.
        int[] joinedWithShare = {0, 1, 2, 3, 3, 4, 5, 6};
        for (int share = 0; share <= 7; share++) {
            due("4: weave(0, " + share + ")", x.weave(0, share), joinedWithShare[share]);
        }
        due("4: weave(0, 3)", x.weave(0, 3), 3);
        due("4: joinedTo(0)", x.joinedTo(0), 10);
        due("4: joinedTo(1)", x.joinedTo(1), 5);
        due("4: joinedTo(2)", x.joinedTo(2), 2);
        due("4: joinedTo(3)", x.joinedTo(3), 1);
        // With seed 6 each is one less, and 0 becomes 6.
        due("4: weave(6, 1)", x.weave(6, 1), 1);
        due("4: joinedTo(0) with seed 6", x.joinedTo(0), 2);
        due("4: joinedTo(1) with seed 6", x.joinedTo(1), 1);
        due("4: weave(7, 1)", x.weave(7, 1), -1);
        due("4: weave(-1, 1)", x.weave(-1, 1), -1);
        due("4: weave(-1, 8)", x.weave(-1, 8), -1);
        due("4: weave(7, -1)", x.weave(7, -1), -1);
        due("4: weave(max, 7)", x.weave(Integer.MAX_VALUE, 7), -1);
        due("4: weave(0, 8)", x.weave(0, 8), -2);
        due("4: weave(6, -1)", x.weave(6, -1), -2);
        due("4: joinedTo(0) after refusals", x.joinedTo(0), 2);
        due("4: joinedTo(3) after refusals", x.joinedTo(3), 0);
        due("4: weave(5, 0)", x.weave(5, 0), 0);
        due("4: nine points, weave(6, 7)", new CliqueLister(9).weave(6, 7), 36);
    }

    private static void invert() {
        CliqueLister x = triangleWithTail();
        due("5: invert()", x.invert(), 6);
        due("5: joinedTo(0)", x.joinedTo(0), 24);
        due("5: joinedTo(1)", x.joinedTo(1), 24);
        due("5: joinedTo(2)", x.joinedTo(2), 16);
        due("5: joinedTo(3)", x.joinedTo(3), 19);
        due("5: joinedTo(4)", x.joinedTo(4), 15);
        due("5: invert() again", x.invert(), 4);
        due("5: joinedTo(2) again", x.joinedTo(2), 11);
        due("5: joinedTo(4) again", x.joinedTo(4), 0);
        CliqueLister y = new CliqueLister(9);
        due("5: nine points, invert()", y.invert(), 36);
        due("5: nine points, joinedTo(8)", y.joinedTo(8), 255);
        due("5: nine points, invert() again", y.invert(), 0);
        y.weigh(4, 9);
        y.invert();
        due("5: weights stay", y.weigh(4, 1), 9);
    }

    private static void weigh() {
        CliqueLister x = new CliqueLister(3);
        due("6: weigh(0, 20)", x.weigh(0, 20), 1);
        due("6: weigh(0, 1)", x.weigh(0, 1), 20);
        due("6: weigh(2, 7)", x.weigh(2, 7), 1);
        due("6: weigh(2, 0)", x.weigh(2, 0), -2);
        due("6: weigh(2, 21)", x.weigh(2, 21), -2);
        due("6: weigh(2, -5)", x.weigh(2, -5), -2);
        due("6: weigh(3, 5)", x.weigh(3, 5), -1);
        due("6: weigh(-1, 5)", x.weigh(-1, 5), -1);
        due("6: weigh(3, 0)", x.weigh(3, 0), -1);
        due("6: weigh(-1, 21)", x.weigh(-1, 21), -1);
        due("6: weigh(max, 1)", x.weigh(Integer.MAX_VALUE, 1), -1);
        due("6: heaviest()", x.heaviest(), 7);
        due("6: weigh(2, 7) again", x.weigh(2, 7), 7);
        due("6: weigh(1, 1)", x.weigh(1, 1), 1);
        due("6: weigh(0, 2)", x.weigh(0, 2), 1);
    }

    private static void joinedTo() {
        CliqueLister x = triangleWithTail();
        int[] sets = {6, 5, 11, 4, 0};
        for (int p = 0; p < 5; p++) {
            due("7: joinedTo(" + p + ")", x.joinedTo(p), sets[p]);
        }
        due("7: joinedTo(5)", x.joinedTo(5), -1);
        due("7: joinedTo(-1)", x.joinedTo(-1), -1);
        due("7: joinedTo(9)", x.joinedTo(9), -1);
        due("7: joinedTo(min)", x.joinedTo(Integer.MIN_VALUE), -1);
        due("7: joinedTo(max)", x.joinedTo(Integer.MAX_VALUE), -1);
        due("7: all joined, joinedTo(8)", allJoined(9).joinedTo(8), 255);
    }

    private static void isClique() {
        CliqueLister x = triangleWithTail();
        int[] cliques = {0, 1, 2, 3, 4, 5, 6, 7, 8, 12, 16};
        int next = 0;
        for (int set = 0; set < 32; set++) {
            boolean clique = next < cliques.length && cliques[next] == set;
            due("8: isClique(" + set + ")", x.isClique(set), clique ? 1 : 0);
            if (clique) {
                next++;
            }
        }
        due("8: isClique(32)", x.isClique(32), -1);
        due("8: isClique(-1)", x.isClique(-1), -1);
        due("8: isClique(min)", x.isClique(Integer.MIN_VALUE), -1);
        due("8: isClique(max)", x.isClique(Integer.MAX_VALUE), -1);
        due("8: all joined, isClique(511)", allJoined(9).isClique(511), 1);
        due("8: all joined, isClique(512)", allJoined(9).isClique(512), -1);
    }

    private static void fullCliques() {
        due("9: none joined", new CliqueLister(9).fullCliques(), 9);
        due("9: all joined", allJoined(9).fullCliques(), 1);
        due("9: ring", ringOfFive().fullCliques(), 5);
        due("9: triangle with tail", triangleWithTail().fullCliques(), 3);
        due("9: two points", new CliqueLister(2).fullCliques(), 2);
        due("9: two joined points", allJoined(2).fullCliques(), 1);
    }

    private static void full() {
        CliqueLister x = triangleWithTail();
        due("10: full(0)", x.full(0), 7);
        due("10: full(1)", x.full(1), 12);
        due("10: full(2)", x.full(2), 16);
        due("10: full(3)", x.full(3), -1);
        due("10: full(-1)", x.full(-1), -1);
        due("10: full(min)", x.full(Integer.MIN_VALUE), -1);
        due("10: full(max)", x.full(Integer.MAX_VALUE), -1);
        int[] ring = {3, 6, 12, 17, 24, -1};
        for (int i = 0; i < ring.length; i++) {
            due("10: ring, full(" + i + ")", ringOfFive().full(i), ring[i]);
        }
        due("10: none joined, full(8)", new CliqueLister(9).full(8), 256);
        due("10: all joined, full(0)", allJoined(9).full(0), 511);
        due("10: all joined, full(1)", allJoined(9).full(1), -1);
    }

    private static void cliques() {
        int[] withTail = {1, 5, 4, 1, 0, 0, 0, 0, 0, 0};
        int[] ofNine = {1, 9, 36, 84, 126, 126, 84, 36, 9, 1};
        for (int k = 0; k <= 9; k++) {
            due("11: cliques(" + k + ")", triangleWithTail().cliques(k), withTail[k]);
            due("11: all joined, cliques(" + k + ")", allJoined(9).cliques(k), ofNine[k]);
        }
        due("11: cliques(10)", allJoined(9).cliques(10), -1);
        due("11: cliques(-1)", allJoined(9).cliques(-1), -1);
        due("11: cliques(min)", allJoined(9).cliques(Integer.MIN_VALUE), -1);
        due("11: cliques(max)", allJoined(9).cliques(Integer.MAX_VALUE), -1);
        due("11: two points, cliques(3)", allJoined(2).cliques(3), 0);
    }

    private static void heaviest() {
        CliqueLister x = triangleWithTail();
        due("12: heaviest()", x.heaviest(), 3);
        x.weigh(3, 2);
        due("12: heaviest() with a tie", x.heaviest(), 3);
        x.weigh(3, 6);
        due("12: heaviest() at the tail", x.heaviest(), 7);
        x.weigh(4, 20);
        due("12: heaviest() of one point", x.heaviest(), 20);
        CliqueLister y = allJoined(9);
        for (int p = 0; p < 9; p++) {
            y.weigh(p, 20);
        }
        due("12: all joined, heaviest()", y.heaviest(), 180);
        due("12: none joined, heaviest()", new CliqueLister(9).heaviest(), 1);
    }

    private static void best() {
        CliqueLister x = triangleWithTail();
        due("13: best()", x.best(), 7);
        x.weigh(3, 2);
        due("13: best() of the same weight", x.best(), 12);
        x.weigh(0, 2);
        due("13: best() of greater weight and smaller number", x.best(), 7);
        x.weigh(4, 4);
        due("13: best() of one point", x.best(), 16);
        due("13: none joined, best()", new CliqueLister(9).best(), 256);
        due("13: all joined, best()", allJoined(9).best(), 511);
        due("13: ring, best()", ringOfFive().best(), 24);
    }

    private static void bestWith() {
        CliqueLister x = triangleWithTail();
        due("14: bestWith(0)", x.bestWith(0), 7);
        due("14: bestWith(1)", x.bestWith(1), 7);
        due("14: bestWith(3)", x.bestWith(3), 7);
        due("14: bestWith(7)", x.bestWith(7), 7);
        due("14: bestWith(8)", x.bestWith(8), 12);
        due("14: bestWith(16)", x.bestWith(16), 16);
        due("14: bestWith(9)", x.bestWith(9), -2);
        due("14: bestWith(17)", x.bestWith(17), -2);
        due("14: bestWith(31)", x.bestWith(31), -2);
        due("14: bestWith(32)", x.bestWith(32), -1);
        due("14: bestWith(-1)", x.bestWith(-1), -1);
        due("14: bestWith(min)", x.bestWith(Integer.MIN_VALUE), -1);
        due("14: bestWith(max)", x.bestWith(Integer.MAX_VALUE), -1);
        x.weigh(3, 2);
        due("14: bestWith(4) of the same weight", x.bestWith(4), 12);
        due("14: bestWith(2) elsewhere", x.bestWith(2), 7);
        x.weigh(1, 5);
        due("14: bestWith(4) of greater weight", x.bestWith(4), 7);
        due("14: all joined, bestWith(256)", allJoined(9).bestWith(256), 511);
        due("14: all joined, bestWith(512)", allJoined(9).bestWith(512), -1);
    }

    private static void size() {
        due("15: none joined", new CliqueLister(9).size(), 1);
        due("15: all joined", allJoined(9).size(), 9);
        due("15: ring", ringOfFive().size(), 2);
        CliqueLister x = triangleWithTail();
        x.weigh(4, 20);
        due("15: weights do not matter", x.size(), 3);
    }

    private static void colours() {
        for (int n = 2; n <= 9; n++) {
            due("16: none of " + n + " joined", new CliqueLister(n).colours(), 1);
            due("16: all of " + n + " joined", allJoined(n).colours(), n);
        }
        due("16: ring", ringOfFive().colours(), 3);
        due("16: triangle with tail", triangleWithTail().colours(), 3);
        due("16: pair", withPairs(3, 0, 2).colours(), 2);
        // A ring of five and a hub joined with all of it.
        due("16: wheel", withPairs(6, 0, 1, 1, 2, 2, 3, 3, 4, 4, 0, 5, 0, 5, 1, 5, 2, 5, 3, 5, 4).colours(), 4);
    }

    private static void colourings() {
        int[] ring = {0, 0, 0, 30, 240};
        int[] withTail = {0, 0, 0, 36, 288};
        int[] none = {0, 1, 512, 19683, 262144};
        int[] four = {0, 0, 0, 0, 24};
        for (int k = 0; k <= 4; k++) {
            due("17: ring, colourings(" + k + ")", ringOfFive().colourings(k), ring[k]);
            due("17: colourings(" + k + ")", triangleWithTail().colourings(k), withTail[k]);
            due("17: none joined, colourings(" + k + ")", new CliqueLister(9).colourings(k), none[k]);
            due("17: four joined, colourings(" + k + ")", allJoined(4).colourings(k), four[k]);
        }
        due("17: colourings(5)", ringOfFive().colourings(5), -1);
        due("17: colourings(-1)", ringOfFive().colourings(-1), -1);
        due("17: colourings(min)", ringOfFive().colourings(Integer.MIN_VALUE), -1);
        due("17: colourings(max)", ringOfFive().colourings(Integer.MAX_VALUE), -1);
    }

    private static void alike() {
        CliqueLister x = triangleWithTail();
        due("18: alike(0, 3, 3)", x.alike(0, 3, 3), 1);
        due("18: alike(3, 0, 3)", x.alike(3, 0, 3), 1);
        due("18: alike(0, 3, 2)", x.alike(0, 3, 2), 0);
        due("18: alike(2, 3, 9)", x.alike(2, 3, 9), 0);
        due("18: alike(4, 2, 3)", x.alike(4, 2, 3), 1);
        due("18: alike(4, 4, 3)", x.alike(4, 4, 3), 1);
        due("18: alike(4, 4, 2)", x.alike(4, 4, 2), 0);
        due("18: alike(0, 0, 0)", x.alike(0, 0, 0), 0);
        due("18: alike(0, 5, 3)", x.alike(0, 5, 3), -1);
        due("18: alike(5, 0, 3)", x.alike(5, 0, 3), -1);
        due("18: alike(-1, 0, 3)", x.alike(-1, 0, 3), -1);
        due("18: alike(0, -1, 3)", x.alike(0, -1, 3), -1);
        due("18: alike(5, 5, 10)", x.alike(5, 5, 10), -1);
        due("18: alike(0, -1, -1)", x.alike(0, -1, -1), -1);
        due("18: alike(0, 3, 10)", x.alike(0, 3, 10), -2);
        due("18: alike(0, 0, -1)", x.alike(0, 0, -1), -2);
        due("18: alike(0, 1, max)", x.alike(0, 1, Integer.MAX_VALUE), -2);
        // 0-1-2-3: the ends of a path of four have different colours if there are only two.
        CliqueLister path = withPairs(4, 0, 1, 1, 2, 2, 3);
        due("18: path, alike(0, 2, 2)", path.alike(0, 2, 2), 1);
        due("18: path, alike(0, 3, 2)", path.alike(0, 3, 2), 0);
        due("18: path, alike(0, 3, 3)", path.alike(0, 3, 3), 1);
        due("18: none joined, alike(0, 8, 1)", new CliqueLister(9).alike(0, 8, 1), 1);
        due("18: none joined, alike(0, 8, 0)", new CliqueLister(9).alike(0, 8, 0), 0);
        // 9 to the 8th colourings do it, and 9 to the 9th in the row after: the most there can be.
        due("18: none joined, alike(0, 8, 9)", new CliqueLister(9).alike(0, 8, 9), 1);
        due("18: none joined, alike(8, 8, 9)", new CliqueLister(9).alike(8, 8, 9), 1);
        due("18: all joined, alike(3, 3, 9)", allJoined(9).alike(3, 3, 9), 1);
        due("18: all joined, alike(3, 3, 8)", allJoined(9).alike(3, 3, 8), 0);
    }

    private static void exampleOfTheReadme() {
        CliqueLister x = new CliqueLister(5);
        due("README: join(0, 1, 1)", x.join(0, 1, 1), 0);
        due("README: join(0, 2, 1)", x.join(0, 2, 1), 0);
        due("README: join(1, 2, 1)", x.join(1, 2, 1), 0);
        due("README: join(2, 3, 1)", x.join(2, 3, 1), 0);
        due("README: fullCliques()", x.fullCliques(), 3);
        due("README: full(0)", x.full(0), 7);
        due("README: full(3)", x.full(3), -1);
        due("README: weigh(3, 6)", x.weigh(3, 6), 1);
        due("README: best()", x.best(), 12);
        due("README: heaviest()", x.heaviest(), 7);
        due("README: bestWith(1)", x.bestWith(1), 7);
        due("README: bestWith(9)", x.bestWith(9), -2);
        due("README: colours()", x.colours(), 3);
        due("README: colourings(3)", x.colourings(3), 36);
        due("README: alike(0, 3, 3)", x.alike(0, 3, 3), 1);
    }

    public static void main(String[] args) {
        newObject();
        points();
        join();
        weave();
        invert();
        weigh();
        joinedTo();
        isClique();
        fullCliques();
        full();
        cliques();
        heaviest();
        best();
        bestWith();
        size();
        colours();
        colourings();
        alike();
        exampleOfTheReadme();
        if (wrong != 0) {
            System.exit(1);
        }
    }
}
