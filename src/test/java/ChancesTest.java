import java.lang.reflect.Field;
import java.lang.reflect.Method;
import java.math.BigInteger;
import java.util.Random;

/** Promises 3, 4 and 11 to 16: by hand, and by looking at every outcome one by one as the Terms tell it. */
public final class ChancesTest {
    private static void eightOnes(Bench it) {
        for (int i = 0; i < 4; i++) {
            it.table(i, 1, 1, 1, 1, 1, 1, 1, 1);
        }
    }

    private static Due fresh() {
        Bench it = new Bench("promises 1, 3, 4");
        Due due = it.due;
        ReadAge judge = it.judge;
        due.is("top()", judge.top(), 0);
        due.is("bottom()", judge.bottom(), 1);
        // N 3, w 2, r 2, each delay 0: all is there at once.
        due.fraction("takes(true, 0)", judge.takes(true, 0), 1, 1);
        due.fraction("takes(true, 1)", judge.takes(true, 1), 0, 1);
        due.fraction("takes(false, 0)", judge.takes(false, 0), 1, 1);
        due.fraction("takes(false, 14)", judge.takes(false, 14), 0, 1);
        // top() and bottom() leave STATUS, other calls and refused ones leave the FRACTION.
        it.table(0, 1, 2);
        judge.numbers(1, 1, 1);
        due.fraction("takes(true, 1)", judge.takes(true, 1), 2, 3);
        due.refused("takes(true, 15)", judge.takes(true, 15), 1);
        due.is("top()", judge.top(), 2);
        due.is("bottom()", judge.bottom(), 3);
        due.is("status()", judge.status(), 1);
        due.refused("odds(0, 0, 1)", judge.odds(0, 0, 1), 1);
        due.fine("choose", judge.choose(1, 0, 0, 0, 0, 1, 1, 1, 1), 111);
        due.fine("gap", judge.gap(5));
        due.fine("begin", judge.begin());
        due.is("top()", judge.top(), 2);
        due.is("bottom()", judge.bottom(), 3);
        due.fraction("odds(0, 0, 0)", judge.odds(0, 0, 0), 0, 1);
        return due;
    }

    private static Due numbers() {
        Bench it = new Bench("promise 11");
        Due due = it.due;
        ReadAge judge = it.judge;
        // N 3, w 2, r 2 at first.
        it.table(0, 1, 1);
        it.table(2, 1, 1);
        due.fraction("takes(true, 0)", judge.takes(true, 0), 1, 2);
        due.fraction("takes(false, 0)", judge.takes(false, 0), 1, 2);
        int[][] wrong = {{0, 1, 1}, {6, 1, 1}, {-1, 1, 1}, {3, 0, 1}, {3, 4, 1}, {3, 1, 0}, {3, 1, 4}, {1, 2, 1},
            {1, 1, 2}, {Integer.MAX_VALUE, 1, 1}, {Integer.MIN_VALUE, 1, 1}, {3, Integer.MIN_VALUE, 1}};
        for (int[] x : wrong) {
            due.refused("numbers " + x[0] + " " + x[1] + " " + x[2], judge.numbers(x[0], x[1], x[2]), 1);
        }
        due.fraction("takes(true, 0)", judge.takes(true, 0), 1, 2);
        due.fine("numbers(5, 5, 1)", judge.numbers(5, 5, 1));
        due.fraction("takes(true, 0)", judge.takes(true, 0), 1, 32);
        due.fraction("takes(true, 1)", judge.takes(true, 1), 31, 32);
        due.fraction("takes(false, 0)", judge.takes(false, 0), 31, 32);
        due.fine("numbers(5, 1, 5)", judge.numbers(5, 1, 5));
        due.fraction("takes(true, 0)", judge.takes(true, 0), 31, 32);
        due.fraction("takes(false, 1)", judge.takes(false, 1), 31, 32);
        due.fine("numbers(1, 1, 1)", judge.numbers(1, 1, 1));
        due.fraction("takes(true, 0)", judge.takes(true, 0), 1, 2);
        return due;
    }

    private static Due gap() {
        Bench it = new Bench("promise 12");
        Due due = it.due;
        ReadAge judge = it.judge;
        judge.numbers(2, 1, 1);
        it.table(0, 1, 1, 1);
        // COPY 0 is read as the WRITE comes to COPY 1, at 0 (its letter at 1 or 2) or 1 (at 2), and has not
        // the older one either, if its letter needs more than that and GAP. GAP is 1 at first.
        due.fraction("odds(0, 1, 1) at first", judge.odds(0, 1, 1), 2 * 1 + 1 * 0, 27);
        due.fine("gap(0)", judge.gap(0));
        due.fraction("odds(0, 1, 1)", judge.odds(0, 1, 1), 2 * 2 + 1 * 1, 27);
        due.fine("gap(2)", judge.gap(2));
        due.fraction("odds(0, 1, 1)", judge.odds(0, 1, 1), 0, 1);
        it.table(0, 1, 1, 0, 0, 0, 0, 0, 1);
        due.fine("gap(6)", judge.gap(6));
        due.fraction("odds(0, 1, 1)", judge.odds(0, 1, 1), 2 * 1 + 1 * 0, 27);
        due.refused("gap(101)", judge.gap(101), 1);
        due.refused("gap(-1)", judge.gap(-1), 1);
        due.refused("gap(MIN)", judge.gap(Integer.MIN_VALUE), 1);
        due.refused("gap(MAX)", judge.gap(Integer.MAX_VALUE), 1);
        due.fine("gap(7)", judge.gap(7));
        due.fraction("odds(0, 1, 1)", judge.odds(0, 1, 1), 0, 1);
        due.fine("gap(100)", judge.gap(100));
        due.fraction("odds(0, 1, 1)", judge.odds(0, 1, 1), 0, 1);
        return due;
    }

    private static Due table() {
        Bench it = new Bench("promise 13");
        Due due = it.due;
        ReadAge judge = it.judge;
        judge.numbers(1, 1, 1);
        due.refused("table(-1, 0, 1)", judge.table(-1, 0, 1), 1);
        due.refused("table(4, 0, 1)", judge.table(4, 0, 1), 1);
        due.refused("table(0, -1, 1)", judge.table(0, -1, 1), 1);
        due.refused("table(0, 4, 1)", judge.table(0, 4, 1), 1);
        due.refused("table(0, 0, 0)", judge.table(0, 0, 0), 1);
        due.refused("table(0, 0, -1)", judge.table(0, 0, -1), 1);
        due.refused("table(0, 0, 9)", judge.table(0, 0, 9), 1);
        due.refused("table(0, 0, 1)", judge.table(0, 0, 1), 2);
        judge.sheet(0, 3, 3);
        due.refused("table(0, 0, 4)", judge.table(0, 0, 4), 3);
        due.refused("table(0, 0, 9)", judge.table(0, 0, 9), 1);
        due.refused("all weights 0", judge.table(0, 0, 3), 1);
        long[][] wrong = {{9, 0, 0}, {0, 4, 5}, {-1, 3, 0}, {2, -1, 3}, {Long.MAX_VALUE, Long.MAX_VALUE, 4},
            {Long.MIN_VALUE, Long.MIN_VALUE, 4}, {8, 0, 1}, {1L << 32, 0, 1}};
        for (long[] weights : wrong) {
            for (int i = 0; i < 3; i++) {
                judge.write(0, i, weights[i]);
            }
            due.refused("weights " + weights[0] + " " + weights[1] + " " + weights[2], judge.table(0, 0, 3), 1);
            due.fraction("takes(true, 0)", judge.takes(true, 0), 1, 1);
        }
        // Too few numbers are told ahead of weights that can't be.
        due.refused("table(0, 0, 4)", judge.table(0, 0, 4), 3);
        it.table(0, 0, 3, 0, 0, 0, 0, 0, 5);
        due.fraction("takes(true, 0)", judge.takes(true, 0), 0, 1);
        due.fraction("takes(true, 1)", judge.takes(true, 1), 3, 8);
        due.fraction("takes(true, 7)", judge.takes(true, 7), 5, 8);
        // Only the first numbers are taken, 0 beyond: the 8 of delay 7 is gone.
        judge.sheet(0, 0, 3);
        judge.write(0, 0, 1);
        judge.write(0, 1, 1);
        judge.write(0, 2, 100);
        due.fine("table(0, 0, 2)", judge.table(0, 0, 2));
        due.fraction("takes(true, 1)", judge.takes(true, 1), 1, 2);
        due.fraction("takes(true, 7)", judge.takes(true, 7), 0, 1);
        // What comes to the SHEET later does not come to the TABLE.
        judge.write(0, 0, 3);
        due.fraction("takes(true, 0)", judge.takes(true, 0), 1, 2);
        // Each TABLE by itself.
        it.table(1, 0, 0, 1);
        due.fraction("takes(true, 3)", judge.takes(true, 3), 1, 2);
        it.table(2, 1, 3);
        it.table(3, 0, 1);
        due.fraction("takes(false, 1)", judge.takes(false, 1), 1, 4);
        due.fraction("takes(false, 2)", judge.takes(false, 2), 3, 4);
        due.fraction("takes(true, 3)", judge.takes(true, 3), 1, 2);
        return due;
    }

    private static Due takes() {
        Bench it = new Bench("promise 14");
        Due due = it.due;
        ReadAge judge = it.judge;
        for (boolean write : new boolean[] {true, false}) {
            due.refused("takes(.., -1)", judge.takes(write, -1), 1);
            due.refused("takes(.., 15)", judge.takes(write, 15), 1);
            due.refused("takes(.., MIN)", judge.takes(write, Integer.MIN_VALUE), 1);
            due.refused("takes(.., MAX)", judge.takes(write, Integer.MAX_VALUE), 1);
        }
        eightOnes(it);
        judge.numbers(5, 5, 1);
        // All five at 14: 1 of 64 each; the greatest product that takes() can have, never GREAT.
        due.fraction("takes(true, 14)", judge.takes(true, 14), (1L << 30) - power(63, 5), 1L << 30);
        due.fraction("takes(true, 0)", judge.takes(true, 0), 1, 1L << 30);
        due.fraction("takes(false, 14)", judge.takes(false, 14), 1, 1L << 30);
        due.fraction("takes(false, 0)", judge.takes(false, 0), (1L << 30) - power(63, 5), 1L << 30);
        judge.numbers(2, 1, 2);
        // 8 of 64 by tick 7's own, 28 sooner: the first of two at 7: 36^2 - 28^2 of 64^2 from above.
        due.fraction("takes(true, 7)", judge.takes(true, 7), (36 * 36 - 28 * 28) / 512, 4096 / 512);
        due.fraction("takes(false, 7)", judge.takes(false, 7), (36 * 36 - 28 * 28) / 512, 4096 / 512);
        return due;
    }

    private static long power(long base, int times) {
        return BigInteger.valueOf(base).pow(times).longValueExact();
    }

    private static Due odds() {
        Bench it = new Bench("promise 15");
        Due due = it.due;
        ReadAge judge = it.judge;
        int[][] wrong = {{-1, 0, 0}, {101, 0, 0}, {0, -1, 0}, {0, 4, 0}, {0, 0, 1}, {0, 0, -1}, {0, 3, 4},
            {Integer.MIN_VALUE, 0, 0}, {Integer.MAX_VALUE, 0, 0}, {0, Integer.MAX_VALUE, 0},
            {0, 3, Integer.MAX_VALUE}};
        for (int[] x : wrong) {
            due.refused("odds " + x[0] + " " + x[1] + " " + x[2], judge.odds(x[0], x[1], x[2]), 1);
        }
        due.fraction("odds(100, 3, 3)", judge.odds(100, 3, 3), 0, 1);
        judge.numbers(2, 1, 1);
        it.table(0, 1, 0, 0, 0, 0, 0, 0, 1);
        // The one that is asked has its letter at 7: till then it is missed.
        due.fraction("odds(6, 0, 0)", judge.odds(6, 0, 0), 1, 4);
        due.fraction("odds(7, 0, 0)", judge.odds(7, 0, 0), 0, 1);
        // A letter that comes at the answer's tick is there: 1 tick to the COPY, 6 behind.
        it.table(2, 0, 1);
        due.fraction("odds(5, 0, 0)", judge.odds(5, 0, 0), 1, 4);
        due.fraction("odds(6, 0, 0)", judge.odds(6, 0, 0), 0, 1);
        // The way back says which answer is the first, not what it has.
        it.table(3, 0, 0, 0, 0, 0, 0, 0, 1);
        due.fraction("odds(5, 0, 0)", judge.odds(5, 0, 0), 1, 4);
        // GREAT just at 2 to the power 62.
        it.table(2, 1);
        it.table(3, 1);
        it.table(0, 8);
        it.table(1, 8);
        judge.numbers(5, 1, 1);
        it.table(2, 8);
        it.table(3, 8);
        due.fraction("2 to the power 60", judge.odds(0, 0, 0), 0, 1);
        due.refused("2 to the power 75", judge.odds(0, 1, 0), 9);
        due.refused("1 ahead of 9", judge.odds(0, 1, 2), 1);
        due.is("top()", judge.top(), 0);
        judge.numbers(4, 1, 1);
        due.fraction("2 to the power 60", judge.odds(0, 1, 0), 0, 1);
        judge.numbers(3, 1, 1);
        due.fraction("2 to the power 54", judge.odds(0, 2, 2), 0, 1);
        due.refused("2 to the power 63", judge.odds(0, 3, 0), 9);
        judge.numbers(2, 1, 1);
        due.fraction("2 to the power 42", judge.odds(0, 3, 3), 0, 1);
        // 2 copies never reach it; with 4: (8 8 8 8 8 2 ..) to the power 4.
        judge.numbers(4, 1, 1);
        it.table(3, 4);
        due.fraction("2 to the power 56", judge.odds(0, 1, 0), 0, 1);
        it.table(3, 1);
        it.table(2, 1);
        it.table(1, 1);
        due.fraction("2 to the power 48", judge.odds(0, 3, 0), 0, 1);
        it.table(1, 7);
        due.fraction("12 bits and a 7, 4 times: below", judge.odds(0, 3, 0), 0, 1);
        // 8 to the 4 by 7 by 2 is 57,344, to the power 4 above 2 to the 62; by 1 below.
        it.table(2, 2);
        due.refused("57,344 to the power 4", judge.odds(0, 3, 0), 9);
        judge.numbers(2, 1, 1);
        it.table(2, 1, 1);
        due.fraction("odds(0, 3, 0)", judge.odds(0, 3, 0), 0, 1);
        return due;
    }

    /** The product's edge itself: 2 to the power 62 is GREAT, the next lesser products are not. */
    private static Due great() {
        Bench it = new Bench("GREAT");
        Due due = it.due;
        ReadAge judge = it.judge;
        // The first weights are 1: 8 ^ 4 and 8 ^ 3 alone, to the power 5, are below.
        judge.numbers(5, 1, 1);
        it.table(0, 8);
        due.fraction("2 to the 60", judge.odds(0, 3, 3), 0, 1);
        Bench another = new Bench("GREAT");
        for (int table = 1; table < 4; table++) {
            another.table(table, 8);
        }
        another.judge.numbers(5, 1, 1);
        another.due.fraction("2 to the 45", another.judge.odds(0, 3, 3), 0, 1);
        due.is("wrong ones", another.due.wrong(), 0);
        // N 3, K 3: 8 ^ 4 by 8 8 6 is 1,572,864, to the power 3 below 2 to the 62; by 8 8 7 it is
        // 1,835,008, to the power 3 above 2 to the 62, though below 2 to the 63.
        judge.numbers(3, 1, 1);
        it.table(0, 8);
        it.table(1, 8);
        it.table(2, 8);
        it.table(3, 6);
        due.fraction("1,572,864 to the 3", judge.odds(0, 3, 3), 0, 1);
        due.fine("choose", judge.choose(3, 0, 3, 3, 0, 1, 0, 0, 0), 111);
        it.table(3, 7);
        due.refused("1,835,008 to the 3", judge.odds(0, 3, 3), 9);
        due.refused("choose", judge.choose(3, 0, 3, 3, 0, 1, 0, 0, 0), 9);
        it.table(1, 1);
        it.table(2, 1);
        it.table(3, 1);
        // 8 ^ 4 to the power 5 is 2 to the 60, by 2 ^ 5 GREAT.
        judge.numbers(5, 1, 1);
        it.table(0, 4, 4);
        due.is("odds(0, 3, 3) is not refused", judge.odds(0, 3, 3) >= 0, true);
        it.table(1, 2);
        due.refused("2 to the 65", judge.odds(0, 3, 3), 9);
        // 7 ^ 4 = 2401; 2401 * 2 = 4802; 4802 ^ 5 is 2.55e18, below 4.61e18; 7203 ^ 5 is above.
        it.table(0, 4, 3);
        due.is("4,802 to the 5 is not refused", judge.odds(0, 3, 3) >= 0, true);
        it.table(1, 3);
        due.refused("7,203 to the 5", judge.odds(0, 3, 3), 9);
        // 5,405 to the power 5 is the greatest below 2 to the 62 (5,404.7 ^ 5): 5,400 is 6 ^ 2 150.
        it.table(0, 3, 3);
        it.table(1, 5);
        it.table(2, 5);
        it.table(3, 6);
        due.is("5,400 to the 5 is not refused", judge.odds(0, 1, 1) >= 0, true);
        it.table(3, 7);
        due.refused("6,300 to the 5", judge.odds(0, 1, 1), 9);
        return due;
    }

    private static Due choose() {
        Bench it = new Bench("promise 16");
        Due due = it.due;
        ReadAge judge = it.judge;
        int[][] wrong = {
            {0, 0, 0, 0, 0, 1, 0, 0, 0}, {6, 0, 0, 0, 0, 1, 0, 0, 0}, {5, -1, 0, 0, 0, 1, 0, 0, 0},
            {5, 101, 0, 0, 0, 1, 0, 0, 0}, {5, 0, -1, 0, 0, 1, 0, 0, 0}, {5, 0, 4, 0, 0, 1, 0, 0, 0},
            {5, 0, 1, 2, 0, 1, 0, 0, 0}, {5, 0, 1, -1, 0, 1, 0, 0, 0}, {5, 0, 0, 0, -1, 1, 0, 0, 0},
            {5, 0, 0, 0, 2, 1, 0, 0, 0}, {5, 0, 0, 0, 0, 0, 0, 0, 0}, {5, 0, 0, 0, 0, 1000001, 0, 0, 0},
            {5, 0, 0, 0, 0, -1, 0, 0, 0}, {5, 0, 0, 0, 0, 1, -1, 0, 0}, {5, 0, 0, 0, 0, 1, 1001, 0, 0},
            {5, 0, 0, 0, 0, 1, 0, -1, 0}, {5, 0, 0, 0, 0, 1, 0, 1001, 0}, {5, 0, 0, 0, 0, 1, 0, 0, -1},
            {5, 0, 0, 0, 0, 1, 0, 0, 1001}, {5, 0, 0, 0, -2, -1, 0, 0, 0},
            {5, 0, 0, 0, Integer.MIN_VALUE, Integer.MIN_VALUE, 0, 0, 0}};
        for (int[] x : wrong) {
            due.refused("choose with a number that can't be",
                    judge.choose(x[0], x[1], x[2], x[3], x[4], x[5], x[6], x[7], x[8]), 1);
        }
        due.fine("edges", judge.choose(5, 100, 3, 3, 1000000, 1000000, 1000, 1000, 1000), 111);
        due.fine("one copy", judge.choose(1, 0, 0, 0, 0, 1, 0, 0, 0), 111);
        // All prices 0: all cost the same, the least N, w, r it is.
        due.fine("no prices", judge.choose(5, 0, 0, 0, 0, 1, 0, 0, 0), 111);
        // Letters that come at 0 or 1, words at 1: nothing is behind then; prices can't be below N 1's.
        it.table(0, 1, 1);
        judge.numbers(4, 3, 2);
        due.fine("choose", judge.choose(5, 0, 0, 0, 0, 1, 1, 1, 1), 111);
        // N, w, r stay: 3 of 4 by tick 0 are 5 of 16.
        due.fraction("takes(true, 0)", judge.takes(true, 0), 5, 16);
        due.is("N, w and r of a RUN", judge.begin(), true);
        due.fine("of(3, 0)", judge.of(3, 0), 0);
        due.refused("of(4, 0)", judge.of(4, 0), 1);
        // GREAT of one N is enough, even if a lesser one would be chosen.
        eightOnes(it);
        due.refused("choose GREAT", judge.choose(5, 0, 1, 0, 1, 1, 0, 0, 0), 9);
        due.refused("1 ahead of 9", judge.choose(5, 0, 1, 0, 2, 1, 0, 0, 0), 1);
        due.fine("choose of 4", judge.choose(4, 0, 1, 0, 1, 1, 0, 0, 0), 111);
        due.fine("choose of 5", judge.choose(5, 0, 0, 0, 1, 1, 0, 0, 0), 111);
        return due;
    }

    /** Every outcome with its weight, one by one: the letters of all COPIES as digits of one counter. */
    private static final class Outcomes {
        final int[][] weights = new int[4][8];
        int n;
        int w;
        int r;
        int gap;
        int t;
        int k;
        /** [COPY][TABLE 0, 1, 2, 3, then the older WRITES' letters] */
        int[][] delays;
        long all = 0;
        long missed = 0;
        final long[] ends = new long[15];
        final long[] reads = new long[15];

        void count() {
            delays = new int[n][4 + k];
            draw(0, 1);
        }

        private void draw(int place, long weight) {
            if (place == n * (4 + k)) {
                look(weight);
                return;
            }
            int copy = place / (4 + k);
            int letter = place % (4 + k);
            int table = letter < 4 ? letter : 0;
            for (int delay = 0; delay < 8; delay++) {
                if (weights[table][delay] > 0) {
                    delays[copy][letter] = delay;
                    draw(place + 1, weight * weights[table][delay]);
                }
            }
        }

        private void look(long weight) {
            int end = -1;
            for (int tick = 0, words = 0; words < w; tick++) {
                for (int[] copy : delays) {
                    words += copy[0] + copy[1] == tick ? 1 : 0;
                }
                end = tick;
            }
            int begun = end + t;
            int age = k + 1;
            int took = -1;
            for (int tick = 0, answers = 0; answers < r; tick++) {
                for (int copy = 0; copy < n && answers < r; copy++) {
                    if (delays[copy][2] + delays[copy][3] == tick) {
                        answers++;
                        took = tick;
                        age = Math.min(age, ageOf(delays[copy], begun + delays[copy][2]));
                    }
                }
            }
            all += weight;
            ends[end] += weight;
            reads[took] += weight;
            missed += age > k ? weight : 0;
        }

        private int ageOf(int[] copy, int tick) {
            if (copy[0] <= tick) {
                return 0;
            }
            for (int j = 1; j <= k; j++) {
                if (-j * gap + copy[3 + j] <= tick) {
                    return j;
                }
            }
            return k + 1;
        }
    }

    private static Due outcomes() {
        Random random = new Random(5);
        Due all = null;
        int[][] shapes = {{1, 3}, {2, 0}, {2, 1}, {2, 2}, {3, 0}, {3, 1}, {4, 0}, {5, 0}};
        Due[] dues = new Due[400];
        for (int round = 0; round < dues.length; round++) {
            int[] shape = shapes[round % shapes.length];
            dues[round] = compare(random, shape[0], random.nextInt(shape[1] + 1));
        }
        all = new Due();
        for (Due due : dues) {
            all.is("a round's wrong answers", due.wrong(), 0);
        }
        return all;
    }

    private static Due compare(Random random, int n, int k) {
        Bench it = new Bench("outcomes of N " + n + ", K " + k);
        Due due = it.due;
        Outcomes outcomes = new Outcomes();
        outcomes.n = n;
        outcomes.w = 1 + random.nextInt(random.nextBoolean() ? n : Math.max(1, n - 1));
        outcomes.r = 1 + random.nextInt(Math.max(1, n - outcomes.w + (random.nextInt(4) == 0 ? 1 : 0)));
        outcomes.gap = random.nextInt(4);
        outcomes.t = random.nextInt(3);
        outcomes.k = k;
        int digits = 0;
        for (int table = 0; table < 4; table++) {
            // So many ways that all can be looked at: some TABLES have one delay alone.
            boolean two = n < 4 || table == 0 || random.nextInt(n - 2) == 0 && digits++ < (n == 4 ? 2 : 1);
            int[] weights = outcomes.weights[table];
            weights[random.nextInt(8)] += 1 + random.nextInt(3);
            if (two) {
                weights[table == 0 ? 7 : random.nextInt(3)] += 1 + random.nextInt(4);
            }
            it.table(table, weights);
        }
        outcomes.count();
        ReadAge judge = it.judge;
        judge.numbers(n, outcomes.w, outcomes.r);
        judge.gap(outcomes.gap);
        it.fraction("odds", judge.odds(outcomes.t, k, k), outcomes.missed, outcomes.all);
        for (int tick = 0; tick < 15; tick++) {
            it.fraction("takes(true, " + tick + ")", judge.takes(true, tick), outcomes.ends[tick], outcomes.all);
            it.fraction("takes(false, " + tick + ")", judge.takes(false, tick), outcomes.reads[tick], outcomes.all);
        }
        return due;
    }

    /**
     * With prices that can be told the CHOICE is always 111: one COPY misses nothing and costs least. So
     * the search itself is asked too, with prices below 0, by which more COPIES, WAITS and ASKS are cheap.
     */
    private static Due search() throws ReflectiveOperationException {
        Random random = new Random(6);
        Due due = new Due().in("the search");
        Field field = ReadAge.class.getDeclaredField("odds");
        field.setAccessible(true);
        for (int round = 0; round < 600; round++) {
            Bench it = new Bench("the search");
            Object odds = field.get(it.judge);
            Method ask = odds.getClass().getDeclaredMethod("ask", int.class, int.class);
            Method cheapest = odds.getClass().getDeclaredMethod("cheapest", int.class, int.class, int.class,
                    int.class, int.class, int.class);
            ask.setAccessible(true);
            cheapest.setAccessible(true);
            // A common factor of the weights makes the numbers of ways great and leaves the chances.
            int factor = round % 2 == 0 ? 1 : 4;
            it.table(0, 1, random.nextInt(8 / factor));
            it.table(1, factor * 2);
            it.table(2, factor, factor * random.nextInt(2));
            it.table(3, factor, factor * random.nextInt(2));
            if (random.nextInt(4) == 0) {
                it.table(0, factor, factor);
            }
            int most = 1 + random.nextInt(5);
            int t = random.nextInt(2);
            int bottom = round % 3 == 0 ? 1000000 : 1 + random.nextInt(1000);
            int top = random.nextInt(4) == 0 ? 0 : random.nextInt(bottom + 1);
            int[] prices = {random.nextInt(7) - 3, random.nextInt(7) - 3, random.nextInt(7) - 3};
            if (round % 8 < 4) {
                // Just as great as the chance of one of them: that one keeps the promise, one less does not.
                it.judge.numbers(most, 1, 1);
                it.judge.odds(t, 0, 0);
                if (it.judge.bottom() <= 1000000) {
                    top = Math.max(0, (int) it.judge.top() - random.nextInt(2));
                    bottom = (int) it.judge.bottom();
                }
            }
            int best = ReadAge.NONE;
            int least = 0;
            for (int code = 111; code <= 555; code++) {
                int n = code / 100;
                int price = n * prices[0] + code / 10 % 10 * prices[1] + code % 10 * prices[2];
                if (n <= most && it.judge.numbers(n, code / 10 % 10, code % 10) && (best < 0 || price < least)) {
                    it.judge.odds(t, 0, 0);
                    BigInteger chance = BigInteger.valueOf(it.judge.top()).multiply(BigInteger.valueOf(bottom));
                    BigInteger told = BigInteger.valueOf(it.judge.bottom()).multiply(BigInteger.valueOf(top));
                    if (chance.compareTo(told) <= 0) {
                        best = code;
                        least = price;
                    }
                }
            }
            ask.invoke(odds, t, 0);
            Object got = cheapest.invoke(odds, most, top, bottom, prices[0], prices[1], prices[2]);
            due.is("cheapest", (Integer) got, best);
        }
        return due;
    }

    /** The search's comparison, on numbers up to the greatest, alike ones and neighbours among them. */
    private static Due comparison() throws ReflectiveOperationException {
        Random random = new Random(7);
        Due due = new Due().in("the comparison");
        Class<?> odds = ReadAge.class.getDeclaredField("odds").getType();
        Method isAtMost = odds.getDeclaredMethod("isAtMost", long.class, long.class, long.class, long.class);
        isAtMost.setAccessible(true);
        for (int round = 0; round < 20000; round++) {
            long bottom = 1 + random.nextInt(random.nextBoolean() ? 1000000 : 20);
            long top = random.nextInt((int) bottom + 1);
            long scale = (random.nextLong() >>> 2 + random.nextInt(40)) / bottom;
            long all = scale * bottom;
            long ways = scale * top + random.nextInt(3) - 1;
            if (random.nextInt(4) == 0) {
                ways = all == 0 ? 0 : (random.nextLong() >>> 2) % all;
            }
            if (all < 1 || ways < 0 || ways > all) {
                continue;
            }
            boolean want = BigInteger.valueOf(ways).multiply(BigInteger.valueOf(bottom))
                    .compareTo(BigInteger.valueOf(all).multiply(BigInteger.valueOf(top))) <= 0;
            due.is(ways + " by " + all + " at most " + top + " by " + bottom,
                    (Boolean) isAtMost.invoke(null, ways, all, top, bottom), want);
        }
        return due;
    }

    public static void main(String[] args) throws ReflectiveOperationException {
        Due.end(fresh(), numbers(), gap(), table(), takes(), odds(), great(), choose(), outcomes(), search(),
                comparison());
    }
}
