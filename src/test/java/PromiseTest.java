/** Runs written by hand: for each promise ordinary inputs, the document's edges and wrong inputs. */
public final class PromiseTest {
    private static final int BAD = -1000000;
    private static final int[] NO_PARTITIONS = {
        0, -1, 8, 17, 64, 512, 15, 65, 73 + 8, 584, 586 + 8 * 2, 659, 666, 4095, 4096, 4097,
        4096 + 19, 1 << 16, (1 << 30) + 5, Integer.MAX_VALUE, Integer.MIN_VALUE, Integer.MIN_VALUE + 5
    };
    private static final int[] NO_SUMS = {0, -1, -7, 8, 9, 15, 100, Integer.MAX_VALUE, Integer.MIN_VALUE};

    private static int wrong = 0;

    public static void main(String[] args) {
        promise1();
        promise2and3();
        promise4();
        promise5();
        promise6();
        promise7();
        promise8();
        promise9();
        promise10();
        promise11();
        promise12();
        promise13();
        promise14();
        objectsStandApart();
        System.out.println(wrong == 0 ? "all answers are as due" : wrong + " answers are not as due");
        if (wrong != 0) {
            System.exit(1);
        }
    }

    private static void due(String call, long got, long want) {
        if (got != want) {
            wrong++;
            System.out.println(call + " answered " + got + ", due is " + want);
        }
    }

    private static int p(int a, int b, int c, int d) {
        return a + 8 * b + 64 * c + 512 * d;
    }

    private static void promise1() {
        due("1: BAD", CharacterDesk.BAD, BAD);
        CharacterDesk x = new CharacterDesk();
        due("1: shape() when new", x.shape(), 0);
        due("1: at(1) when new", x.at(1), BAD);
        due("1: at(0) when new", x.at(0), BAD);
    }

    private static void promise2and3() {
        CharacterDesk x = new CharacterDesk();
        for (int s : NO_PARTITIONS) {
            due("2: choose(" + s + ") when new", x.choose(s), BAD);
            due("3: shape() after choose(" + s + ")", x.shape(), 0);
        }
        due("2: choose 3,2", x.choose(p(3, 2, 0, 0)), 5);
        due("3: shape 3,2", x.shape(), 19);
        for (int s : NO_PARTITIONS) {
            due("2: choose(" + s + ") after 3,2", x.choose(s), BAD);
            due("3: shape() kept after choose(" + s + ")", x.shape(), 19);
        }
        due("2: choose 2,2,2,1", x.choose(p(2, 2, 2, 1)), 7);
        due("3: shape 2,2,2,1", x.shape(), 658);
        due("2: choose 7", x.choose(7), 7);
        due("3: shape 7", x.shape(), 7);
        due("2: choose 1", x.choose(1), 1);
        due("3: shape 1", x.shape(), 1);
        due("2: choose 1,1,1,1", x.choose(p(1, 1, 1, 1)), 4);
        x.character(19, 19);
        x.degree(19);
        x.turned(19);
        x.greatest(19);
        x.partition(7, 0);
        due("3: shape() kept by the other calls", x.shape(), 585);
    }

    private static void promise4() {
        CharacterDesk x = new CharacterDesk();
        x.choose(p(2, 1, 0, 0));
        due("4: 2,1 at 3", x.at(3), -1);
        due("4: 2,1 at 2,1", x.at(p(2, 1, 0, 0)), 0);
        due("4: 2,1 at 1,1,1", x.at(p(1, 1, 1, 0)), 2);
        due("4: 2,1 at 4", x.at(4), BAD);
        due("4: 2,1 at 2", x.at(2), BAD);
        for (int m : NO_PARTITIONS) {
            due("4: 2,1 at(" + m + ")", x.at(m), BAD);
        }
        x.choose(0);
        due("4: 2,1 at 3 after a wrong choose", x.at(3), -1);
        x.choose(p(1, 1, 1, 1));
        due("4: 1,1,1,1 at 4", x.at(4), -1);
        due("4: 1,1,1,1 at 3", x.at(3), BAD);
    }

    private static void promise5() {
        CharacterDesk x = new CharacterDesk();
        int[] shapes = {4, p(3, 1, 0, 0), p(2, 2, 0, 0), p(2, 1, 1, 0), p(1, 1, 1, 1)};
        int[] cycles = {p(1, 1, 1, 1), p(2, 1, 1, 0), p(2, 2, 0, 0), p(3, 1, 0, 0), 4};
        int[] table = {
            1, 1, 1, 1, 1,
            3, 1, -1, 0, -1,
            2, 0, 2, -1, 0,
            3, -1, -1, 0, 1,
            1, -1, 1, 1, -1
        };
        for (int i = 0; i < 5; i++) {
            for (int j = 0; j < 5; j++) {
                String call = "5: character(" + shapes[i] + ", " + cycles[j] + ")";
                due(call, x.character(shapes[i], cycles[j]), table[5 * i + j]);
            }
        }
        due("5: 1 at 1", x.character(1, 1), 1);
        due("5: 4,1,1,1 at 7", x.character(p(4, 1, 1, 1), 7), -1);
        due("5: 5 at 4", x.character(5, 4), BAD);
        due("5: 4 at 5", x.character(4, 5), BAD);
        for (int bad : NO_PARTITIONS) {
            due("5: character(" + bad + ", 3)", x.character(bad, 3), BAD);
            due("5: character(3, " + bad + ")", x.character(3, bad), BAD);
            due("5: character of " + bad + " twice", x.character(bad, bad), BAD);
        }
    }

    private static void promise6() {
        CharacterDesk x = new CharacterDesk();
        for (int n = 1; n <= 7; n++) {
            due("6: degree of " + n, x.degree(n), 1);
        }
        due("6: 1,1,1,1", x.degree(p(1, 1, 1, 1)), 1);
        due("6: 2,1", x.degree(p(2, 1, 0, 0)), 2);
        due("6: 3,2", x.degree(p(3, 2, 0, 0)), 5);
        due("6: 3,1,1", x.degree(p(3, 1, 1, 0)), 6);
        due("6: 2,1,1,1", x.degree(p(2, 1, 1, 1)), 4);
        due("6: 4,2", x.degree(p(4, 2, 0, 0)), 9);
        due("6: 3,3,1", x.degree(p(3, 3, 1, 0)), 21);
        due("6: 4,1,1,1", x.degree(p(4, 1, 1, 1)), 20);
        due("6: 3,2,1,1", x.degree(p(3, 2, 1, 1)), 35);
        for (int s : NO_PARTITIONS) {
            due("6: degree(" + s + ")", x.degree(s), BAD);
        }
    }

    private static void promise7() {
        CharacterDesk x = new CharacterDesk();
        int[] counts = {1, 2, 3, 5, 6, 9, 11};
        for (int n = 1; n <= 7; n++) {
            due("7: count(" + n + ")", x.count(n), counts[n - 1]);
        }
        for (int n : NO_SUMS) {
            due("7: count(" + n + ")", x.count(n), 0);
        }
    }

    private static void promise8() {
        CharacterDesk x = new CharacterDesk();
        int[] ofFive = {p(2, 1, 1, 1), p(2, 2, 1, 0), p(3, 1, 1, 0), p(3, 2, 0, 0), p(4, 1, 0, 0), 5};
        for (int k = 0; k < 6; k++) {
            due("8: partition(5, " + k + ")", x.partition(5, k), ofFive[k]);
        }
        due("8: partition(7, 0)", x.partition(7, 0), 658);
        due("8: partition(1, 0)", x.partition(1, 0), 1);
        int[] noPlaces = {-1, 6, 7, 1000, Integer.MAX_VALUE, Integer.MIN_VALUE};
        for (int k : noPlaces) {
            due("8: partition(5, " + k + ")", x.partition(5, k), BAD);
        }
        for (int n : NO_SUMS) {
            due("8: partition(" + n + ", 0)", x.partition(n, 0), BAD);
        }
    }

    private static void promise9() {
        CharacterDesk x = new CharacterDesk();
        due("9: 1", x.turned(1), 1);
        due("9: 4", x.turned(4), 585);
        due("9: 4,3", x.turned(p(4, 3, 0, 0)), p(2, 2, 2, 1));
        due("9: 2,2,2,1", x.turned(p(2, 2, 2, 1)), p(4, 3, 0, 0));
        due("9: 3,2,1", x.turned(p(3, 2, 1, 0)), p(3, 2, 1, 0));
        due("9: 4,1,1", x.turned(p(4, 1, 1, 0)), p(3, 1, 1, 1));
        due("9: 5", x.turned(5), BAD);
        due("9: 5,1,1", x.turned(p(5, 1, 1, 0)), BAD);
        due("9: 7", x.turned(7), BAD);
        for (int s : NO_PARTITIONS) {
            due("9: turned(" + s + ")", x.turned(s), BAD);
        }
    }

    private static void promise10() {
        CharacterDesk x = new CharacterDesk();
        due("10: 1", x.permutations(1), 1);
        due("10: 1,1,1,1", x.permutations(p(1, 1, 1, 1)), 1);
        due("10: 2,1,1", x.permutations(p(2, 1, 1, 0)), 6);
        due("10: 2,2", x.permutations(p(2, 2, 0, 0)), 3);
        due("10: 3,1", x.permutations(p(3, 1, 0, 0)), 8);
        due("10: 2,2,1,1", x.permutations(p(2, 2, 1, 1)), 45);
        due("10: 4,1,1,1", x.permutations(p(4, 1, 1, 1)), 210);
        due("10: 3,3,1", x.permutations(p(3, 3, 1, 0)), 280);
        due("10: 6,1", x.permutations(p(6, 1, 0, 0)), 840);
        for (int m : NO_PARTITIONS) {
            due("10: permutations(" + m + ")", x.permutations(m), BAD);
        }
    }

    private static void promise11() {
        CharacterDesk x = new CharacterDesk();
        int[] sums = {1, 2, 6, 24, 119, 694, 4582};
        for (int n = 1; n <= 7; n++) {
            due("11: squares(" + n + ")", x.squares(n), sums[n - 1]);
        }
        for (int n : NO_SUMS) {
            due("11: squares(" + n + ")", x.squares(n), BAD);
        }
    }

    private static void promise12() {
        CharacterDesk x = new CharacterDesk();
        due("12: 2,1 at 2,1", x.vanishes(p(2, 1, 0, 0), p(2, 1, 0, 0)) ? 1 : 0, 1);
        due("12: 2,1 at 3", x.vanishes(p(2, 1, 0, 0), 3) ? 1 : 0, 0);
        due("12: 3 at 3", x.vanishes(3, 3) ? 1 : 0, 0);
        due("12: 3 at 4", x.vanishes(3, 4) ? 1 : 0, 0);
        for (int bad : NO_PARTITIONS) {
            due("12: vanishes(" + bad + ", 3)", x.vanishes(bad, 3) ? 1 : 0, 0);
            due("12: vanishes(3, " + bad + ")", x.vanishes(3, bad) ? 1 : 0, 0);
        }
    }

    private static void promise13() {
        CharacterDesk x = new CharacterDesk();
        due("13: 1", x.greatest(1), 1);
        due("13: 1,1,1,1", x.greatest(p(1, 1, 1, 1)), 3);
        due("13: 2,2", x.greatest(p(2, 2, 0, 0)), 2);
        due("13: 2,1,1", x.greatest(p(2, 1, 1, 0)), 1);
        due("13: 2,1,1,1", x.greatest(p(2, 1, 1, 1)), 2);
        for (int m : NO_PARTITIONS) {
            due("13: greatest(" + m + ")", x.greatest(m), BAD);
        }
    }

    private static void promise14() {
        CharacterDesk x = new CharacterDesk();
        due("14: 1", x.support(1), 1);
        due("14: 1,1,1,1", x.support(p(1, 1, 1, 1)), 5);
        due("14: 2,1,1", x.support(p(2, 1, 1, 0)), 4);
        due("14: 4", x.support(4), 4);
        due("14: 7", x.support(7), 4);
        for (int m : NO_PARTITIONS) {
            due("14: support(" + m + ")", x.support(m), BAD);
        }
    }

    private static void objectsStandApart() {
        CharacterDesk x = new CharacterDesk();
        CharacterDesk y = new CharacterDesk();
        x.choose(19);
        due("1: shape() of a second object", y.shape(), 0);
        y.choose(5);
        due("3: shape() of the first object", x.shape(), 19);
    }
}
