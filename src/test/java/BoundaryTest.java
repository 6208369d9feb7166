/**
 * The sentences of the document that name a boundary case: each has one test of its own here, and
 * each fault is told under the name of its sentence. What is due is written out, not worked out.
 */
public final class BoundaryTest {
    private static final int BAD = -1000000;
    private static final int LEAST = Integer.MIN_VALUE;
    private static final int MOST = Integer.MAX_VALUE;
    private static final int LAST_CALL = 512;
    private static final int METHODS = 13;

    /** All partitions of 1 to 7 with at most four parts, for each sum from the greatest number down. */
    private static final int[][] PARTITIONS = {
        {},
        {1},
        {p(1, 1, 0, 0), 2},
        {p(1, 1, 1, 0), p(2, 1, 0, 0), 3},
        {p(1, 1, 1, 1), p(2, 1, 1, 0), p(2, 2, 0, 0), p(3, 1, 0, 0), 4},
        {p(2, 1, 1, 1), p(2, 2, 1, 0), p(3, 1, 1, 0), p(3, 2, 0, 0), p(4, 1, 0, 0), 5},
        {p(2, 2, 1, 1), p(3, 1, 1, 1), p(2, 2, 2, 0), p(3, 2, 1, 0), p(4, 1, 1, 0), p(3, 3, 0, 0),
            p(4, 2, 0, 0), p(5, 1, 0, 0), 6},
        {p(2, 2, 2, 1), p(3, 2, 1, 1), p(4, 1, 1, 1), p(3, 2, 2, 0), p(3, 3, 1, 0), p(4, 2, 1, 0),
            p(5, 1, 1, 0), p(4, 3, 0, 0), p(5, 2, 0, 0), p(6, 1, 0, 0), 7}
    };
    /** The degrees of PARTITIONS, place by place. */
    private static final int[][] DEGREES = {
        {},
        {1},
        {1, 1},
        {1, 2, 1},
        {1, 3, 2, 3, 1},
        {4, 5, 6, 5, 4, 1},
        {9, 10, 5, 16, 10, 5, 9, 5, 1},
        {14, 35, 20, 21, 21, 35, 15, 14, 14, 6, 1}
    };

    private static final int[] NO_PARTITIONS = {
        // the empty list, and below it
        0, -1, -5, -19, -4096, LEAST, LEAST + 1, LEAST + 5,
        // parts that rise
        p(0, 1, 0, 0), p(0, 0, 1, 0), p(0, 0, 0, 1), p(1, 2, 0, 0), p(3, 4, 0, 0), p(2, 1, 2, 0),
        p(1, 1, 2, 0), p(1, 1, 1, 2), p(2, 2, 1, 2),
        // a 0 before a part
        p(1, 0, 1, 0), p(1, 1, 0, 1), p(3, 0, 0, 1), p(6, 0, 1, 0),
        // a sum of 8 or more
        p(7, 1, 0, 0), p(4, 4, 0, 0), p(6, 1, 1, 0), p(3, 3, 2, 0), p(5, 1, 1, 1), p(2, 2, 2, 2),
        p(7, 7, 7, 7),
        // a fifth part, or the bits of one above a right number
        4096, p(1, 1, 1, 1) + 4096, p(2, 1, 1, 1) + 4096, 4097, 5 + 8192, 19 + (1 << 15), 19 + (1 << 16),
        5 + (1 << 24), 5 + (1 << 30), MOST
    };
    private static final int[] NO_SUMS = {0, -1, -2, -7, LEAST, LEAST + 1, 8, 9, 15, 16, 263, MOST, MOST - 1};

    private static String sentence = "";
    private static int wrong = 0;

    public static void main(String[] args) {
        theLastOf512CallsKeepsEveryPromise();
        partitionsAreThoseOfOneToSevenWithFourParts();
        degreeIsTakenWithFactorsOfOne();
        newObjectHasNoneChosen();
        chooseRefusesAndChangesNothing();
        shapeIsZeroWhenThereIsNone();
        atRefusesWithoutShapeOrWithOtherSum();
        characterRefusesOtherSums();
        degreeRefuses();
        countIsZeroOutsideOneToSeven();
        partitionRefuses();
        turnedRefusesAPartAboveFour();
        permutationsRefuses();
        squaresRefuses();
        vanishesIsFalseWhenBad();
        greatestRefuses();
        supportRefuses();
        System.out.println(wrong == 0 ? "all answers are as due" : wrong + " answers are not as due");
        if (wrong != 0) {
            System.exit(1);
        }
    }

    private static void due(String call, long got, long want) {
        if (got != want) {
            wrong++;
            System.out.println(sentence + ": " + call + " answered " + got + ", due is " + want);
        }
    }

    private static void due(String call, boolean got, boolean want) {
        due(call, got ? 1 : 0, want ? 1 : 0);
    }

    private static int p(int a, int b, int c, int d) {
        return a + 8 * b + 64 * c + 512 * d;
    }

    private static void theLastOf512CallsKeepsEveryPromise() {
        sentence = "What it is";
        for (int last = 0; last < METHODS; last++) {
            for (int before = 0; before < METHODS; before++) {
                lastCallAfterOneMethod(last, before);
            }
            lastCallAfterRefusals(last);
        }
        CharacterDesk x = new CharacterDesk();
        for (int call = 1; call < LAST_CALL; call++) {
            x.choose(PARTITIONS[7][call % 11]);
        }
        due("choose(1) as call 512", x.choose(1), 1);
        CharacterDesk y = new CharacterDesk();
        for (int call = 1; call < LAST_CALL; call++) {
            y.shape();
        }
        due("shape() as call 512, none chosen", y.shape(), 0);
    }

    private static void lastCallAfterOneMethod(int last, int before) {
        CharacterDesk x = new CharacterDesk();
        x.choose(p(3, 2, 0, 0));
        for (int call = 2; call < LAST_CALL; call++) {
            rightCall(x, before, call);
        }
        rightCall(x, last, LAST_CALL);
    }

    /** The shape chosen by the first call must be there after 510 refused ones. */
    private static void lastCallAfterRefusals(int last) {
        CharacterDesk x = new CharacterDesk();
        x.choose(p(3, 2, 0, 0));
        for (int call = 2; call < LAST_CALL; call++) {
            refusedCall(x, call % METHODS, NO_PARTITIONS[call % NO_PARTITIONS.length]);
        }
        rightCall(x, last, LAST_CALL);
    }

    /** A call on an object whose shape is 3, 2; it leaves the shape as it is. */
    private static void rightCall(CharacterDesk x, int method, int call) {
        String as = " as call " + call;
        switch (method) {
            case 0 -> due("choose(19)" + as, x.choose(p(3, 2, 0, 0)), 5);
            case 1 -> due("shape()" + as, x.shape(), 19);
            case 2 -> due("at(12)" + as, x.at(p(4, 1, 0, 0)), -1);
            case 3 -> due("character(588, 7)" + as, x.character(p(4, 1, 1, 1), 7), -1);
            case 4 -> due("degree(84)" + as, x.degree(p(4, 2, 1, 0)), 35);
            case 5 -> due("count(7)" + as, x.count(7), 11);
            case 6 -> due("partition(7, 0)" + as, x.partition(7, 0), 658);
            case 7 -> due("turned(658)" + as, x.turned(658), p(4, 3, 0, 0));
            case 8 -> due("permutations(588)" + as, x.permutations(p(4, 1, 1, 1)), 210);
            case 9 -> due("squares(7)" + as, x.squares(7), 4582);
            case 10 -> due("vanishes(10, 10)" + as, x.vanishes(p(2, 1, 0, 0), p(2, 1, 0, 0)), true);
            case 11 -> due("greatest(585)" + as, x.greatest(p(1, 1, 1, 1)), 3);
            default -> due("support(7)" + as, x.support(7), 4);
        }
    }

    /** A call that is refused (shape() never is, and only looks). */
    private static void refusedCall(CharacterDesk x, int method, int bad) {
        switch (method) {
            case 0 -> due("choose(" + bad + ")", x.choose(bad), BAD);
            case 1 -> due("shape()", x.shape(), 19);
            case 2 -> due("at(" + bad + ")", x.at(bad), BAD);
            case 3 -> due("character(" + bad + ", 7)", x.character(bad, 7), BAD);
            case 4 -> due("degree(" + bad + ")", x.degree(bad), BAD);
            case 5 -> due("count(8)", x.count(8), 0);
            case 6 -> due("partition(8, 0)", x.partition(8, 0), BAD);
            case 7 -> due("turned(" + bad + ")", x.turned(bad), BAD);
            case 8 -> due("permutations(" + bad + ")", x.permutations(bad), BAD);
            case 9 -> due("squares(8)", x.squares(8), BAD);
            case 10 -> due("vanishes(" + bad + ", 7)", x.vanishes(bad, 7), false);
            case 11 -> due("greatest(" + bad + ")", x.greatest(bad), BAD);
            default -> due("support(" + bad + ")", x.support(bad), BAD);
        }
    }

    private static void partitionsAreThoseOfOneToSevenWithFourParts() {
        sentence = "Terms, partition";
        for (int n = 1; n <= 7; n++) {
            for (int s : PARTITIONS[n]) {
                due("choose(" + s + ")", new CharacterDesk().choose(s), n);
                // Bits above the fourth part would be a fifth part, or a wrap-around.
                for (int bit = 12; bit <= 31; bit++) {
                    int beyond = s ^ (1 << bit);
                    due("choose(" + beyond + ")", new CharacterDesk().choose(beyond), BAD);
                }
            }
        }
        int found = 0;
        for (int s = -70000; s <= 70000; s++) {
            found += new CharacterDesk().choose(s) != BAD ? 1 : 0;
        }
        due("the numbers that choose takes", found, 1 + 2 + 3 + 5 + 6 + 9 + 11);
        CharacterDesk x = new CharacterDesk();
        due("the greatest number, 2, 2, 2, 1", x.choose(658), 7);
        due("the least number, 1", x.choose(1), 1);
    }

    private static void degreeIsTakenWithFactorsOfOne() {
        sentence = "Terms, degree";
        CharacterDesk x = new CharacterDesk();
        int[] ones = {0, 1, p(1, 1, 0, 0), p(1, 1, 1, 0), p(1, 1, 1, 1)};
        for (int n = 1; n <= 7; n++) {
            for (int i = 0; i < PARTITIONS[n].length; i++) {
                int s = PARTITIONS[n][i];
                due("degree(" + s + ")", x.degree(s), DEGREES[n][i]);
                if (n <= 4) {
                    due("character(" + s + ", " + ones[n] + ")", x.character(s, ones[n]), DEGREES[n][i]);
                }
            }
        }
        // The list of five ones is no cycle list, so that its characters are not to be had.
        due("character(5, 1,1,1,1,1)", x.character(5, p(1, 1, 1, 1) + 4096), BAD);
    }

    private static void newObjectHasNoneChosen() {
        sentence = "Promise 1";
        due("shape() when new", new CharacterDesk().shape(), 0);
        for (int n = 1; n <= 7; n++) {
            for (int m : PARTITIONS[n]) {
                due("at(" + m + ") when new", new CharacterDesk().at(m), BAD);
            }
        }
        CharacterDesk used = new CharacterDesk();
        used.choose(19);
        CharacterDesk fresh = new CharacterDesk();
        due("shape() of a new object beside a used one", fresh.shape(), 0);
        due("at(19) of a new object beside a used one", fresh.at(19), BAD);
        due("shape() of the used one", used.shape(), 19);
    }

    private static void chooseRefusesAndChangesNothing() {
        sentence = "Promise 2";
        for (int bad : NO_PARTITIONS) {
            CharacterDesk x = new CharacterDesk();
            due("choose(" + bad + ") when new", x.choose(bad), BAD);
            due("shape() after it", x.shape(), 0);
            due("at(1) after it", x.at(1), BAD);
            due("choose(12)", x.choose(p(4, 1, 0, 0)), 5);
            due("choose(" + bad + ") after choose(12)", x.choose(bad), BAD);
            due("shape() after it", x.shape(), 12);
            due("at(5) after it", x.at(5), -1);
        }
        CharacterDesk y = new CharacterDesk();
        int[] edges = {1, 7, p(1, 1, 1, 1), p(2, 2, 2, 1), p(4, 1, 1, 1), p(6, 1, 0, 0)};
        int[] sums = {1, 7, 4, 7, 7, 7};
        for (int i = 0; i < edges.length; i++) {
            due("choose(" + edges[i] + ")", y.choose(edges[i]), sums[i]);
            due("shape() after it", y.shape(), edges[i]);
        }
    }

    private static void shapeIsZeroWhenThereIsNone() {
        sentence = "Promise 3";
        CharacterDesk x = new CharacterDesk();
        due("shape()", x.shape(), 0);
        due("shape() again", x.shape(), 0);
        x.at(1);
        x.character(19, 19);
        x.degree(19);
        x.count(5);
        x.partition(5, 0);
        x.turned(19);
        x.permutations(19);
        x.squares(5);
        x.vanishes(19, 19);
        x.greatest(19);
        x.support(19);
        due("shape() after calls that choose nothing", x.shape(), 0);
        x.choose(0);
        x.choose(p(7, 1, 0, 0));
        due("shape() after refused calls", x.shape(), 0);
        x.choose(1);
        due("shape() after choose(1)", x.shape(), 1);
    }

    private static void atRefusesWithoutShapeOrWithOtherSum() {
        sentence = "Promise 4";
        for (int bad : NO_PARTITIONS) {
            due("at(" + bad + "), none chosen", new CharacterDesk().at(bad), BAD);
        }
        for (int n = 1; n <= 7; n++) {
            for (int s : PARTITIONS[n]) {
                due("at(" + s + "), none chosen", new CharacterDesk().at(s), BAD);
                CharacterDesk x = new CharacterDesk();
                x.choose(s);
                for (int bad : NO_PARTITIONS) {
                    due("at(" + bad + ") of " + s, x.at(bad), BAD);
                }
                atWithEverySum(x, n, s);
            }
        }
        CharacterDesk y = new CharacterDesk();
        y.choose(p(2, 2, 2, 1));
        due("at(7) of 658", y.at(7), 0);
        due("at(588) of 658", y.at(p(4, 1, 1, 1)), 2);
        y.choose(1);
        due("at(1) of 1", y.at(1), 1);
    }

    private static void atWithEverySum(CharacterDesk x, int n, int s) {
        for (int other = 1; other <= 7; other++) {
            for (int m : PARTITIONS[other]) {
                due("at(" + m + ") of " + s + " is BAD", x.at(m) == BAD, other != n);
            }
        }
    }

    private static void characterRefusesOtherSums() {
        sentence = "Promise 5";
        for (int n = 1; n <= 7; n++) {
            for (int s : PARTITIONS[n]) {
                CharacterDesk x = new CharacterDesk();
                for (int bad : NO_PARTITIONS) {
                    due("character(" + s + ", " + bad + ")", x.character(s, bad), BAD);
                    due("character(" + bad + ", " + s + ")", x.character(bad, s), BAD);
                }
                for (int other = 1; other <= 7; other++) {
                    for (int m : PARTITIONS[other]) {
                        due("character(" + s + ", " + m + ") is BAD", x.character(s, m) == BAD, other != n);
                    }
                }
            }
        }
        // Two wrong numbers with the same sum of parts are wrong all the same.
        for (int s : NO_PARTITIONS) {
            for (int m : NO_PARTITIONS) {
                due("character(" + s + ", " + m + ")", new CharacterDesk().character(s, m), BAD);
            }
        }
        due("character(1, 1)", new CharacterDesk().character(1, 1), 1);
        due("character(7, 658)", new CharacterDesk().character(7, 658), 1);
        due("character(658, 658)", new CharacterDesk().character(658, 658), 0);
    }

    private static void degreeRefuses() {
        sentence = "Promise 6";
        CharacterDesk x = new CharacterDesk();
        for (int bad : NO_PARTITIONS) {
            due("degree(" + bad + ")", x.degree(bad), BAD);
        }
        due("degree(1)", x.degree(1), 1);
        due("degree(7)", x.degree(7), 1);
        due("degree(585)", x.degree(p(1, 1, 1, 1)), 1);
        due("degree(658)", x.degree(658), 14);
    }

    private static void countIsZeroOutsideOneToSeven() {
        sentence = "Promise 7";
        CharacterDesk x = new CharacterDesk();
        for (int n : NO_SUMS) {
            due("count(" + n + ")", x.count(n), 0);
        }
        for (int n = 1; n <= 7; n++) {
            due("count(" + n + ")", x.count(n), PARTITIONS[n].length);
        }
    }

    private static void partitionRefuses() {
        sentence = "Promise 8";
        for (int n = 1; n <= 7; n++) {
            CharacterDesk x = new CharacterDesk();
            int[] all = PARTITIONS[n];
            for (int k = 0; k < all.length; k++) {
                due("partition(" + n + ", " + k + ")", x.partition(n, k), all[k]);
            }
            int[] noPlaces = {-1, -2, LEAST, LEAST + 1, all.length, all.length + 1, 658, 4096, MOST};
            for (int k : noPlaces) {
                due("partition(" + n + ", " + k + ")", x.partition(n, k), BAD);
            }
        }
        CharacterDesk y = new CharacterDesk();
        int[] places = {0, 1, -1, 5, LEAST, MOST};
        for (int n : NO_SUMS) {
            for (int k : places) {
                due("partition(" + n + ", " + k + ")", y.partition(n, k), BAD);
            }
        }
    }

    private static void turnedRefusesAPartAboveFour() {
        sentence = "Promise 9";
        CharacterDesk x = new CharacterDesk();
        for (int bad : NO_PARTITIONS) {
            due("turned(" + bad + ")", x.turned(bad), BAD);
        }
        int[] wide = {5, 6, 7, p(5, 1, 0, 0), p(5, 2, 0, 0), p(5, 1, 1, 0), p(6, 1, 0, 0)};
        for (int s : wide) {
            due("turned(" + s + ")", x.turned(s), BAD);
        }
        int[] right = {4, p(4, 1, 0, 0), p(4, 2, 0, 0), p(4, 1, 1, 0), p(4, 3, 0, 0), p(4, 2, 1, 0), p(4, 1, 1, 1)};
        int[] turned = {p(1, 1, 1, 1), p(2, 1, 1, 1), p(2, 2, 1, 1), p(3, 1, 1, 1), p(2, 2, 2, 1), p(3, 2, 1, 1),
            p(4, 1, 1, 1)};
        for (int i = 0; i < right.length; i++) {
            due("turned(" + right[i] + ")", x.turned(right[i]), turned[i]);
            due("turned(" + turned[i] + ")", x.turned(turned[i]), right[i]);
        }
        due("turned(1)", x.turned(1), 1);
    }

    private static void permutationsRefuses() {
        sentence = "Promise 10";
        CharacterDesk x = new CharacterDesk();
        for (int bad : NO_PARTITIONS) {
            due("permutations(" + bad + ")", x.permutations(bad), BAD);
        }
        due("permutations(1)", x.permutations(1), 1);
        due("permutations(7)", x.permutations(7), 720);
        due("permutations(585)", x.permutations(p(1, 1, 1, 1)), 1);
        due("permutations(658)", x.permutations(658), 105);
    }

    private static void squaresRefuses() {
        sentence = "Promise 11";
        CharacterDesk x = new CharacterDesk();
        for (int n : NO_SUMS) {
            due("squares(" + n + ")", x.squares(n), BAD);
        }
        int[] sums = {0, 1, 2, 6, 24, 119, 694, 4582};
        for (int n = 1; n <= 7; n++) {
            due("squares(" + n + ")", x.squares(n), sums[n]);
        }
    }

    private static void vanishesIsFalseWhenBad() {
        sentence = "Promise 12";
        for (int bad : NO_PARTITIONS) {
            CharacterDesk x = new CharacterDesk();
            due("vanishes(" + bad + ", 10)", x.vanishes(bad, p(2, 1, 0, 0)), false);
            due("vanishes(10, " + bad + ")", x.vanishes(p(2, 1, 0, 0), bad), false);
            due("vanishes(" + bad + ", " + bad + ")", x.vanishes(bad, bad), false);
        }
        for (int n = 1; n <= 7; n++) {
            for (int s : PARTITIONS[n]) {
                vanishesWithOtherSums(n, s);
            }
        }
        CharacterDesk y = new CharacterDesk();
        due("vanishes(10, 10)", y.vanishes(p(2, 1, 0, 0), p(2, 1, 0, 0)), true);
        due("vanishes(658, 7)", y.vanishes(658, 7), true);
        due("vanishes(7, 7)", y.vanishes(7, 7), false);
        due("vanishes(1, 1)", y.vanishes(1, 1), false);
    }

    private static void vanishesWithOtherSums(int n, int s) {
        CharacterDesk x = new CharacterDesk();
        for (int other = 1; other <= 7; other++) {
            for (int m : PARTITIONS[other]) {
                if (other != n) {
                    due("vanishes(" + s + ", " + m + ")", x.vanishes(s, m), false);
                }
            }
        }
    }

    private static void greatestRefuses() {
        sentence = "Promise 13";
        CharacterDesk x = new CharacterDesk();
        for (int bad : NO_PARTITIONS) {
            due("greatest(" + bad + ")", x.greatest(bad), BAD);
        }
        due("greatest(1)", x.greatest(1), 1);
        due("greatest(7)", x.greatest(7), 1);
        due("greatest(585)", x.greatest(p(1, 1, 1, 1)), 3);
        due("greatest(658)", x.greatest(658), 3);
    }

    private static void supportRefuses() {
        sentence = "Promise 14";
        CharacterDesk x = new CharacterDesk();
        for (int bad : NO_PARTITIONS) {
            due("support(" + bad + ")", x.support(bad), BAD);
        }
        due("support(1)", x.support(1), 1);
        due("support(2)", x.support(2), 2);
        due("support(7)", x.support(7), 4);
        due("support(585)", x.support(p(1, 1, 1, 1)), 5);
        due("support(658)", x.support(658), 7);
    }
}
