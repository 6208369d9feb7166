/** Works out characters of permutations by shapes. */
public final class CharacterDesk {
    public static final int BAD = -1000000;

    private static final int LETTERS = 4;
    private static final int GREATEST_SUM = 7;

    // 2, 2, 2, 1: a fourth part above 1 or a third above 2 beside it would need a sum above 7.
    private static final int GREATEST_PARTITION = 658;

    // What the six differences of 3, 2, 1, 0 multiply to.
    private static final int STAIR_DIFFERENCES = 12;

    // 0 stands for no shape, since it is no partition.
    private int chosen;

    public CharacterDesk() {
        chosen = 0;
    }

    public int choose(int s) {
        int n = sumOf(s);
        if (n == 0) {
            return BAD;
        }
        chosen = s;
        return n;
    }

    public int shape() {
        return chosen;
    }

    public int at(int m) {
        return character(chosen, m);
    }

    public int character(int s, int m) {
        int n = sumOf(s);
        if (n == 0 || sumOf(m) != n) {
            return BAD;
        }
        return coefficient(s, m);
    }

    public int degree(int s) {
        if (sumOf(s) == 0) {
            return BAD;
        }
        return degreeOf(s);
    }

    public int count(int n) {
        if (!isSum(n)) {
            return 0;
        }
        int found = 0;
        for (int s = 1; s <= GREATEST_PARTITION; s++) {
            if (sumOf(s) == n) {
                found++;
            }
        }
        return found;
    }

    public int partition(int n, int k) {
        if (!isSum(n)) {
            return BAD;
        }
        int greater = 0;
        for (int s = GREATEST_PARTITION; s >= 1; s--) {
            if (sumOf(s) == n) {
                if (greater == k) {
                    return s;
                }
                greater++;
            }
        }
        return BAD;
    }

    public int turned(int s) {
        // More than four columns would be more parts than a partition has here.
        if (sumOf(s) == 0 || partOf(s, 0) > LETTERS) {
            return BAD;
        }
        int columns = 0;
        for (int i = 0; i < LETTERS; i++) {
            int height = partsAtLeast(s, i + 1);
            columns += height << (3 * i);
        }
        return columns;
    }

    public int permutations(int m) {
        int n = sumOf(m);
        if (n == 0) {
            return BAD;
        }
        int all = factorial(n);
        int repeats = writingsOf(m);
        return quotient(all, repeats);
    }

    public int squares(int n) {
        if (!isSum(n)) {
            return BAD;
        }
        int sum = 0;
        for (int s = 1; s <= GREATEST_PARTITION; s++) {
            if (sumOf(s) == n) {
                int value = degreeOf(s);
                sum += value * value;
            }
        }
        return sum;
    }

    public boolean vanishes(int s, int m) {
        return character(s, m) == 0;
    }

    public int greatest(int m) {
        int n = sumOf(m);
        if (n == 0) {
            return BAD;
        }
        // Every character lies far above BAD, and each n has a shape, so BAD never stays.
        int best = BAD;
        for (int s = 1; s <= GREATEST_PARTITION; s++) {
            if (sumOf(s) == n) {
                int value = coefficient(s, m);
                best = value > best ? value : best;
            }
        }
        return best;
    }

    public int support(int m) {
        int n = sumOf(m);
        if (n == 0) {
            return BAD;
        }
        int found = 0;
        for (int s = 1; s <= GREATEST_PARTITION; s++) {
            if (sumOf(s) == n && coefficient(s, m) != 0) {
                found++;
            }
        }
        return found;
    }

    private static boolean isSum(int n) {
        return n >= 1 && n <= GREATEST_SUM;
    }

    /** The sum of the partition s; 0 when s is no partition. */
    private static int sumOf(int s) {
        if (s < 1 || s > GREATEST_PARTITION) {
            return 0;
        }
        int sum = 0;
        int before = GREATEST_SUM;
        for (int i = 0; i < LETTERS; i++) {
            int part = partOf(s, i);
            if (part > before) {
                return 0;
            }
            sum += part;
            before = part;
        }
        return sum <= GREATEST_SUM ? sum : 0;
    }

    private static int partOf(int s, int i) {
        return (s >> (3 * i)) & 7;
    }

    private static int partsAtLeast(int s, int bound) {
        int found = 0;
        for (int i = 0; i < LETTERS; i++) {
            if (partOf(s, i) >= bound) {
                found++;
            }
        }
        return found;
    }

    /** The power of a letter in the term whose coefficient is the character of s. */
    private static int powerOf(int s, int letter) {
        return partOf(s, letter) + LETTERS - 1 - letter;
    }

    /**
     * The character of s at m. Multiplying out the sums of powers means dealing each part of m
     * to one of the letters; what a deal leaves of the powers must come from the differences.
     */
    private static int coefficient(int s, int m) {
        int w = powerOf(s, 0);
        int x = powerOf(s, 1);
        int y = powerOf(s, 2);
        int z = powerOf(s, 3);
        int deals = 1 << (2 * partsAtLeast(m, 1));
        int sum = 0;
        for (int deal = 0; deal < deals; deal++) {
            int leftW = w - dealtTo(0, m, deal);
            int leftX = x - dealtTo(1, m, deal);
            int leftY = y - dealtTo(2, m, deal);
            int leftZ = z - dealtTo(3, m, deal);
            sum += differenceCoefficient(leftW, leftX, leftY, leftZ);
        }
        return sum;
    }

    /** The sum of the parts of m that a letter gets; two bits of deal name the letter for each part. */
    private static int dealtTo(int letter, int m, int deal) {
        int dealt = 0;
        for (int i = 0; i < LETTERS; i++) {
            if (((deal >> (2 * i)) & 3) == letter) {
                dealt += partOf(m, i);
            }
        }
        return dealt;
    }

    /**
     * The coefficient of the given powers in (w - x)(w - y)(w - z)(x - y)(x - z)(y - z): the
     * sign of the order in which they list 3, 2, 1, 0, and 0 when they list something else.
     */
    private static int differenceCoefficient(int w, int x, int y, int z) {
        if (!isStair(w) || !isStair(x) || !isStair(y) || !isStair(z)) {
            return 0;
        }
        return differences(w, x, y, z) / STAIR_DIFFERENCES;
    }

    private static boolean isStair(int power) {
        return power >= 0 && power < LETTERS;
    }

    private static int differences(int w, int x, int y, int z) {
        return (w - x) * (w - y) * (w - z) * (x - y) * (x - z) * (y - z);
    }

    /**
     * The degree of s. For factors w + x + y + z alone the coefficient has a closed form
     * (Frobenius): n! times the differences of the powers, over the factorials of the powers.
     */
    private static int degreeOf(int s) {
        int w = powerOf(s, 0);
        int x = powerOf(s, 1);
        int y = powerOf(s, 2);
        int z = powerOf(s, 3);
        int n = sumOf(s);
        int above = factorial(n) * differences(w, x, y, z);
        int below = factorial(w) * factorial(x) * factorial(y) * factorial(z);
        return quotient(above, below);
    }

    /** In how many ways one permutation with the cycles m is written as cycles in m's order. */
    private static int writingsOf(int m) {
        int ways = 1;
        int before = 0;
        int alike = 0;
        for (int i = 0; i < LETTERS; i++) {
            int part = partOf(m, i);
            if (part > 0) {
                alike = part == before ? alike + 1 : 1;
                ways *= part * alike;
                before = part;
            }
        }
        return ways;
    }

    private static int factorial(int n) {
        int product = 1;
        for (int i = 2; i <= n; i++) {
            product *= i;
        }
        return product;
    }

    private static int quotient(int above, int below) {
        return below == 0 ? 0 : above / below;
    }
}
