import java.util.ArrayList;
import java.util.HashMap;
import java.util.List;
import java.util.Map;

/**
 * Every partition, and every number near them, against a reference that follows the document's
 * words: polynomials are multiplied out, permutations are counted one by one.
 */
public final class WholeDomainTest {
    private static final int BAD = -1000000;
    private static final int FIRST = -9000;
    private static final int LAST = 9000;

    private static final Map<Integer, int[]> PARTS = new HashMap<>();
    private static final List<List<Integer>> BY_SUM = new ArrayList<>();
    // Renewed often: the document says nothing of an object after its 512th call.
    private static CharacterDesk desk = new CharacterDesk();
    private static int wrong = 0;

    public static void main(String[] args) {
        listPartitions();
        checkCharacters();
        checkDegrees();
        checkLists();
        checkTurned();
        checkPermutations();
        checkWrongNumbers();
        System.out.println(wrong == 0 ? "all answers are as due" : wrong + " answers are not as due");
        if (wrong != 0) {
            System.exit(1);
        }
    }

    private static void due(String call, long got, long want) {
        if (got != want) {
            wrong++;
            System.out.println(call + " answered " + got + ", due is " + want);
        }
    }

    /** Fills BY_SUM, each list from the greatest number to the least. */
    private static void listPartitions() {
        for (int n = 0; n <= 7; n++) {
            BY_SUM.add(new ArrayList<>());
        }
        for (int d = 0; d <= 7; d++) {
            for (int c = d; c <= 7; c++) {
                for (int b = c; b <= 7; b++) {
                    for (int a = b; a <= 7; a++) {
                        int n = a + b + c + d;
                        if (n >= 1 && n <= 7) {
                            int s = a + 8 * b + 64 * c + 512 * d;
                            PARTS.put(s, new int[] {a, b, c, d});
                            BY_SUM.get(n).add(s);
                        }
                    }
                }
            }
        }
        for (List<Integer> list : BY_SUM) {
            list.sort((left, right) -> right - left);
        }
    }

    private static Map<List<Integer>, Long> times(Map<List<Integer>, Long> left, Map<List<Integer>, Long> right) {
        Map<List<Integer>, Long> product = new HashMap<>();
        left.forEach((e, u) -> right.forEach((f, v) -> {
            List<Integer> powers = List.of(
                e.get(0) + f.get(0), e.get(1) + f.get(1), e.get(2) + f.get(2), e.get(3) + f.get(3));
            product.merge(powers, u * v, Long::sum);
        }));
        return product;
    }

    private static List<Integer> letter(int i, int power) {
        return List.of(i == 0 ? power : 0, i == 1 ? power : 0, i == 2 ? power : 0, i == 3 ? power : 0);
    }

    private static Map<List<Integer>, Long> productFor(int[] cycles) {
        Map<List<Integer>, Long> product = new HashMap<>();
        product.put(letter(0, 0), 1L);
        for (int i = 0; i < 4; i++) {
            for (int j = i + 1; j < 4; j++) {
                product = times(product, Map.of(letter(i, 1), 1L, letter(j, 1), -1L));
            }
        }
        for (int p : cycles) {
            if (p > 0) {
                product = times(product, Map.of(letter(0, p), 1L, letter(1, p), 1L, letter(2, p), 1L, letter(3, p), 1L));
            }
        }
        return product;
    }

    private static long characterIn(Map<List<Integer>, Long> product, int s) {
        int[] a = PARTS.get(s);
        return product.getOrDefault(List.of(a[0] + 3, a[1] + 2, a[2] + 1, a[3]), 0L);
    }

    private static void checkCharacters() {
        for (int m : PARTS.keySet()) {
            Map<List<Integer>, Long> product = productFor(PARTS.get(m));
            int n = sum(m);
            desk = new CharacterDesk();
            long greatest = Long.MIN_VALUE;
            int support = 0;
            for (int s : BY_SUM.get(n)) {
                long want = characterIn(product, s);
                greatest = Math.max(greatest, want);
                support += want != 0 ? 1 : 0;
                checkOne(s, m, want);
            }
            due("greatest(" + m + ")", desk.greatest(m), greatest);
            due("support(" + m + ")", desk.support(m), support);
            for (int s : PARTS.keySet()) {
                if (sum(s) != n) {
                    checkOne(s, m, BAD);
                }
            }
        }
    }

    private static void checkOne(int s, int m, long want) {
        due("character(" + s + ", " + m + ")", desk.character(s, m), want);
        due("vanishes(" + s + ", " + m + ")", desk.vanishes(s, m) ? 1 : 0, want == 0 ? 1 : 0);
        due("choose(" + s + ")", desk.choose(s), sum(s));
        due("shape() after choose(" + s + ")", desk.shape(), s);
        due("at(" + m + ") after choose(" + s + ")", desk.at(m), want);
    }

    private static int sum(int s) {
        int[] a = PARTS.get(s);
        return a[0] + a[1] + a[2] + a[3];
    }

    private static void checkDegrees() {
        for (int n = 1; n <= 7; n++) {
            int[] ones = new int[n];
            java.util.Arrays.fill(ones, 1);
            desk = new CharacterDesk();
            Map<List<Integer>, Long> product = productFor(ones);
            long squares = 0;
            for (int s : BY_SUM.get(n)) {
                long want = characterIn(product, s);
                squares += want * want;
                due("degree(" + s + ")", desk.degree(s), want);
            }
            due("squares(" + n + ")", desk.squares(n), squares);
        }
    }

    private static void checkLists() {
        for (int n = -20; n <= 30; n++) {
            desk = new CharacterDesk();
            List<Integer> list = n >= 1 && n <= 7 ? BY_SUM.get(n) : List.of();
            due("count(" + n + ")", desk.count(n), list.size());
            for (int k = -20; k <= 30; k++) {
                int want = k >= 0 && k < list.size() ? list.get(k) : BAD;
                due("partition(" + n + ", " + k + ")", desk.partition(n, k), want);
            }
            if (list.isEmpty()) {
                due("squares(" + n + ")", desk.squares(n), BAD);
            }
        }
    }

    private static void checkTurned() {
        for (int s : PARTS.keySet()) {
            desk = new CharacterDesk();
            int want = 0;
            int weight = 1;
            for (int i = 1; i <= 4; i++) {
                for (int part : PARTS.get(s)) {
                    want += part >= i ? weight : 0;
                }
                weight *= 8;
            }
            due("turned(" + s + ")", desk.turned(s), PARTS.get(s)[0] > 4 ? BAD : want);
        }
    }

    private static void checkPermutations() {
        for (int n = 1; n <= 7; n++) {
            Map<List<Integer>, Integer> counts = new HashMap<>();
            desk = new CharacterDesk();
            countPermutations(new int[n], 0, counts);
            for (int m : BY_SUM.get(n)) {
                List<Integer> lengths = new ArrayList<>();
                for (int part : PARTS.get(m)) {
                    if (part > 0) {
                        lengths.add(part);
                    }
                }
                due("permutations(" + m + ")", desk.permutations(m), counts.get(lengths));
            }
        }
    }

    private static void countPermutations(int[] image, int filled, Map<List<Integer>, Integer> counts) {
        if (filled == image.length) {
            counts.merge(cycleLengths(image), 1, Integer::sum);
            return;
        }
        for (int value = 0; value < image.length; value++) {
            boolean used = false;
            for (int i = 0; i < filled; i++) {
                used |= image[i] == value;
            }
            if (!used) {
                image[filled] = value;
                countPermutations(image, filled + 1, counts);
            }
        }
    }

    private static List<Integer> cycleLengths(int[] image) {
        List<Integer> lengths = new ArrayList<>();
        boolean[] seen = new boolean[image.length];
        for (int i = 0; i < image.length; i++) {
            int length = 0;
            for (int j = i; !seen[j]; j = image[j]) {
                seen[j] = true;
                length++;
            }
            if (length > 0) {
                lengths.add(length);
            }
        }
        lengths.sort((left, right) -> right - left);
        return lengths;
    }

    private static void checkWrongNumbers() {
        for (int s = FIRST; s <= LAST; s++) {
            desk = new CharacterDesk();
            desk.choose(19);
            if (!PARTS.containsKey(s)) {
                due("choose(" + s + ")", desk.choose(s), BAD);
                due("shape() after choose(" + s + ")", desk.shape(), 19);
                due("at(" + s + ")", desk.at(s), BAD);
                due("character(" + s + ", 5)", desk.character(s, 5), BAD);
                due("character(5, " + s + ")", desk.character(5, s), BAD);
                due("character of " + s + " twice", desk.character(s, s), BAD);
                due("vanishes(" + s + ", " + s + ")", desk.vanishes(s, s) ? 1 : 0, 0);
                due("degree(" + s + ")", desk.degree(s), BAD);
                due("turned(" + s + ")", desk.turned(s), BAD);
                due("permutations(" + s + ")", desk.permutations(s), BAD);
                due("greatest(" + s + ")", desk.greatest(s), BAD);
                due("support(" + s + ")", desk.support(s), BAD);
            }
        }
    }
}
