/** Each sentence of the terms CHANCES and CHOICE and of promises 11 to 16 that names an edge or a refusal. */
public final class ChanceEdgesTest {
    private static final int MIN = Integer.MIN_VALUE;
    private static final int MAX = Integer.MAX_VALUE;

    // ---- what is there at first

    private static Due copiesAtFirst() {
        Bench it = new Bench("CHANCES: N COPIES, 3 at first");
        it.due.fine("begin", it.judge.begin());
        it.versions(0, 0, 0);
        it.due.refused("a fourth one", it.judge.of(3, 0), 1);
        return it.due;
    }

    private static Due waitsAndAsksAtFirst() {
        Bench it = new Bench("CHANCES: WAITS w and ASKS r, 2 and 2 at first");
        it.table(0, 1, 1);
        it.table(2, 1, 0, 3);
        it.due.fraction("two of three at 0, 4 of 8 ways", it.judge.takes(true, 0), 1, 2);
        it.due.fraction("two of three at 0, 10 of 64 ways", it.judge.takes(false, 0), 5, 32);
        return it.due;
    }

    private static Due gapAtFirst() {
        Bench it = new Bench("CHANCES: GAP, 1 at first");
        halfLate(it, 2);
        // COPY 0's letters: the WRITE's at 2, the older one's at 2, 1 tick behind tick 0: at 1.
        it.due.fraction("odds(0, 1, 1)", it.judge.odds(0, 1, 1), 1, 8);
        it.due.fraction("odds(1, 1, 1)", it.judge.odds(1, 1, 1), 0, 1);
        it.due.fine("gap(1)", it.judge.gap(1));
        it.due.fraction("odds(0, 1, 1)", it.judge.odds(0, 1, 1), 1, 8);
        return it.due;
    }

    private static Due tablesAtFirst() {
        Bench it = new Bench("CHANCES: at first each has weight 1 for 0 alone");
        it.due.fraction("takes(true, 0)", it.judge.takes(true, 0), 1, 1);
        it.due.fraction("takes(false, 0)", it.judge.takes(false, 0), 1, 1);
        it.due.fraction("takes(true, 1)", it.judge.takes(true, 1), 0, 1);
        it.due.fraction("takes(false, 1)", it.judge.takes(false, 1), 0, 1);
        it.due.fraction("odds(0, 3, 0)", it.judge.odds(0, 3, 0), 0, 1);
        return it.due;
    }

    /** N 2, one WAIT, one ASK; a WRITE's letter takes 0 ticks or so many, each as likely; the rest is at once. */
    private static void halfLate(Bench it, int ticks) {
        int[] weights = new int[ticks + 1];
        weights[0] = 1;
        weights[ticks] = 1;
        it.table(0, weights);
        it.due.fine("numbers", it.judge.numbers(2, 1, 1));
    }

    // ---- promise 11: numbers

    private static Due allNumbers() {
        Bench it = new Bench("11: N 1 to 5, WAITS and ASKS 1 to N");
        for (int n = 1; n <= 5; n++) {
            for (int w = 1; w <= n; w++) {
                for (int r = 1; r <= n; r++) {
                    it.due.fine("numbers " + n + " " + w + " " + r, it.judge.numbers(n, w, r));
                }
            }
        }
        return it.due;
    }

    private static Due copiesBeyond() {
        Bench it = new Bench("11: N below 1, above 5");
        for (int n : new int[] {0, -1, 6, MIN, MAX}) {
            it.due.refused("numbers " + n, it.judge.numbers(n, 1, 1), 1);
        }
        return it.due;
    }

    private static Due waitsBeyond() {
        Bench it = new Bench("11: WAITS below 1, above N");
        for (int w : new int[] {0, -1, 5, MIN, MAX}) {
            it.due.refused("w " + w, it.judge.numbers(4, w, 1), 1);
        }
        it.due.refused("w 2 of N 1", it.judge.numbers(1, 2, 1), 1);
        return it.due;
    }

    private static Due asksBeyond() {
        Bench it = new Bench("11: ASKS below 1, above N");
        for (int r : new int[] {0, -1, 5, MIN, MAX}) {
            it.due.refused("r " + r, it.judge.numbers(4, 1, r), 1);
        }
        it.due.refused("r 2 of N 1", it.judge.numbers(1, 1, 2), 1);
        return it.due;
    }

    private static Due refusedNumbers() {
        Bench it = new Bench("11: w and r are held against the N that is told; a refused call changes none of them");
        it.due.fine("numbers", it.judge.numbers(5, 4, 1));
        it.due.refused("w 4 of N 3", it.judge.numbers(3, 4, 1), 1);
        it.due.refused("r 4 of N 3", it.judge.numbers(3, 1, 4), 1);
        it.due.refused("N 6", it.judge.numbers(6, 2, 2), 1);
        it.table(0, 1, 1);
        it.table(2, 1, 1);
        // Four of five by tick 0: 6 of 32; one of five: 31 of 32.
        it.due.fraction("takes(true, 0)", it.judge.takes(true, 0), 3, 16);
        it.due.fraction("takes(false, 0)", it.judge.takes(false, 0), 31, 32);
        return it.due;
    }

    // ---- promise 12: gap

    private static Due gapBeyond() {
        Bench it = new Bench("12: GAP below 0, above 100");
        halfLate(it, 2);
        for (int ticks : new int[] {-1, 101, MIN, MAX}) {
            it.due.refused("gap " + ticks, it.judge.gap(ticks), 1);
            it.due.fraction("odds(0, 1, 1)", it.judge.odds(0, 1, 1), 1, 8);
        }
        return it.due;
    }

    private static Due gapOfNone() {
        Bench it = new Bench("12: GAP 0: the older WRITES begin at tick 0 too");
        halfLate(it, 1);
        it.due.fine("gap(0)", it.judge.gap(0));
        it.due.fraction("odds(0, 1, 1)", it.judge.odds(0, 1, 1), 1, 8);
        it.due.fraction("odds(0, 3, 3)", it.judge.odds(0, 3, 3), 1, 32);
        return it.due;
    }

    private static Due greatestGap() {
        Bench it = new Bench("12: GAP 100: the older WRITES are there long since");
        halfLate(it, 7);
        it.due.fine("gap(100)", it.judge.gap(100));
        it.due.fraction("odds(0, 3, 0)", it.judge.odds(0, 3, 0), 1, 4);
        it.due.fraction("odds(0, 3, 1)", it.judge.odds(0, 3, 1), 0, 1);
        return it.due;
    }

    private static Due gapJustCovered() {
        Bench it = new Bench("12: an older WRITE's letter that comes at the answer's tick is there");
        halfLate(it, 7);
        it.due.fine("gap(6)", it.judge.gap(6));
        it.due.fraction("odds(0, 1, 1)", it.judge.odds(0, 1, 1), 1, 8);
        it.due.fine("gap(7)", it.judge.gap(7));
        it.due.fraction("odds(0, 1, 1)", it.judge.odds(0, 1, 1), 0, 1);
        return it.due;
    }

    private static Due gapTwice() {
        Bench it = new Bench("CHANCES: begun GAP, 2 GAP .. ticks ahead of tick 0");
        halfLate(it, 7);
        it.due.fine("gap(3)", it.judge.gap(3));
        it.due.fraction("the first ahead, at 4", it.judge.odds(0, 3, 1), 1, 8);
        it.due.fraction("the second ahead, at 1", it.judge.odds(0, 3, 2), 1, 16);
        it.due.fraction("the third ahead, long there", it.judge.odds(0, 3, 3), 0, 1);
        return it.due;
    }

    // ---- promise 13: table

    private static Due tableBeyond() {
        Bench it = new Bench("13: 1: TABLE, SHEET");
        it.sheet(0, 0, 1);
        for (int beyond : new int[] {-1, 4, MIN, MAX}) {
            it.due.refused("table " + beyond, it.judge.table(beyond, 0, 1), 1);
            it.due.refused("sheet " + beyond, it.judge.table(0, beyond, 1), 1);
        }
        return it.due;
    }

    private static Due weightsOfNone() {
        Bench it = new Bench("13: so many, 1 to 8: none, and below");
        it.sheet(0, 0, 1);
        it.due.refused("many 0", it.judge.table(0, 0, 0), 1);
        it.due.refused("many -1", it.judge.table(0, 0, -1), 1);
        it.due.refused("many MIN", it.judge.table(0, 0, MIN), 1);
        return it.due;
    }

    private static Due weightsOfNine() {
        Bench it = new Bench("13: so many, 1 to 8: above");
        it.sheet(0, 0, 1, 0, 0, 0, 0, 0, 0, 0, 0);
        it.due.refused("many 9", it.judge.table(0, 0, 9), 1);
        it.due.refused("many MAX", it.judge.table(0, 0, MAX), 1);
        it.due.fine("many 8", it.judge.table(0, 0, 8));
        return it.due;
    }

    private static Due tableInOrder() {
        Bench it = new Bench("13: 1; 2; 3; 1: the weights, asked last");
        it.due.refused("a TABLE ahead of MISSING", it.judge.table(4, 0, 1), 1);
        it.due.refused("so many ahead of MISSING", it.judge.table(0, 0, 9), 1);
        it.due.refused("MISSING", it.judge.table(0, 0, 8), 2);
        it.sheet(0, 0, 9, -1);
        it.due.refused("so many ahead of too few", it.judge.table(0, 0, 9), 1);
        it.due.refused("a TABLE ahead of too few", it.judge.table(-1, 0, 8), 1);
        it.due.refused("too few ahead of the weights", it.judge.table(0, 0, 3), 3);
        it.due.refused("the weights", it.judge.table(0, 0, 2), 1);
        return it.due;
    }

    private static Due weightBelow() {
        Bench it = new Bench("CHANCES: a weight (0 or more)");
        it.due.fine("numbers", it.judge.numbers(1, 1, 1));
        for (long below : new long[] {-1, -8, Long.MIN_VALUE}) {
            it.sheet(0, 3, 4, below, 3);
            it.due.refused("a weight " + below, it.judge.table(0, 0, 3), 1);
        }
        it.due.fraction("takes(true, 0)", it.judge.takes(true, 0), 1, 1);
        return it.due;
    }

    private static Due noWeight() {
        Bench it = new Bench("CHANCES: all weights together 1 to 8: none");
        it.sheet(0, 0, 0, 0, 0, 0, 0, 0, 0, 0);
        it.due.refused("one 0", it.judge.table(0, 0, 1), 1);
        it.due.refused("eight 0s", it.judge.table(0, 0, 8), 1);
        it.due.fraction("takes(true, 0)", it.judge.takes(true, 0), 1, 1);
        return it.due;
    }

    private static Due mostWeight() {
        Bench it = new Bench("CHANCES: all weights together 1 to 8: the most, and above");
        it.due.fine("numbers", it.judge.numbers(1, 1, 1));
        it.table(0, 0, 0, 0, 0, 0, 0, 0, 1);
        it.table(1, 1, 1, 1, 1, 1, 1, 1, 1);
        it.due.fraction("takes(true, 14)", it.judge.takes(true, 14), 1, 8);
        it.sheet(0, 0, 9, 0);
        it.due.refused("a 9", it.judge.table(1, 0, 1), 1);
        it.sheet(0, 0, 8, 1);
        it.due.refused("8 and 1", it.judge.table(1, 0, 2), 1);
        it.due.fraction("takes(true, 14)", it.judge.takes(true, 14), 1, 8);
        it.due.fine("8 alone", it.judge.table(1, 0, 1));
        it.due.fraction("takes(true, 14)", it.judge.takes(true, 14), 0, 1);
        return it.due;
    }

    private static Due weightsThatWrapAround() {
        Bench it = new Bench("CHANCES: weights whose sum wraps around are not 1 to 8 together");
        long quarter = 1L << 62;
        it.sheet(0, 3, quarter, quarter, quarter, quarter, 1);
        it.due.refused("2 to the 64 and 1", it.judge.table(0, 0, 5), 1);
        it.sheet(0, 3, Long.MAX_VALUE, Long.MAX_VALUE, 3);
        it.due.refused("2 to the 64 and 1", it.judge.table(0, 0, 3), 1);
        it.sheet(0, 3, Long.MIN_VALUE, Long.MIN_VALUE, 1);
        it.due.refused("less 2 to the 64, and 1", it.judge.table(0, 0, 3), 1);
        it.sheet(0, 3, (1L << 32) + 1);
        it.due.refused("2 to the 32 and 1", it.judge.table(0, 0, 1), 1);
        return it.due;
    }

    private static Due noughtBeyond() {
        Bench it = new Bench("13: weights from delay 0 on, 0 beyond");
        it.due.fine("numbers", it.judge.numbers(1, 1, 1));
        it.table(0, 0, 0, 0, 0, 0, 0, 0, 8);
        it.due.fraction("takes(true, 7)", it.judge.takes(true, 7), 1, 1);
        // What the SHEET has behind the told ones may be anything.
        it.sheet(0, 0, 1, 3, 9, -1);
        it.due.fine("table", it.judge.table(0, 0, 2));
        it.due.fraction("takes(true, 0)", it.judge.takes(true, 0), 1, 4);
        it.due.fraction("takes(true, 1)", it.judge.takes(true, 1), 3, 4);
        it.due.fraction("takes(true, 7)", it.judge.takes(true, 7), 0, 1);
        return it.due;
    }

    private static Due eachTable() {
        Bench it = new Bench("CHANCES: TABLES 0 to 3: a WRITE's letter, its word, a READ's letter, its answer");
        it.due.fine("numbers", it.judge.numbers(1, 1, 1));
        it.table(0, 0, 1);
        it.table(1, 0, 0, 1);
        it.table(2, 0, 0, 0, 1);
        it.table(3, 0, 0, 0, 0, 0, 1);
        it.due.fraction("takes(true, 3)", it.judge.takes(true, 3), 1, 1);
        it.due.fraction("takes(false, 8)", it.judge.takes(false, 8), 1, 1);
        return it.due;
    }

    // ---- promise 14: takes

    private static Due ticksBeyond() {
        Bench it = new Bench("14: a tick (0 to 14)");
        for (int ticks : new int[] {-1, 15, MIN, MAX}) {
            it.due.refused("takes(true, " + ticks + ")", it.judge.takes(true, ticks), 1);
            it.due.refused("takes(false, " + ticks + ")", it.judge.takes(false, ticks), 1);
        }
        return it.due;
    }

    private static Due firstAndLastTick() {
        Bench it = new Bench("14: the first tick that can be, and the last");
        it.due.fine("numbers", it.judge.numbers(1, 1, 1));
        for (int table = 0; table < 4; table++) {
            it.table(table, 1, 0, 0, 0, 0, 0, 0, 1);
        }
        for (int way = 0; way < 2; way++) {
            it.due.fraction("at 0", it.judge.takes(way == 0, 0), 1, 4);
            it.due.fraction("at 1", it.judge.takes(way == 0, 1), 0, 1);
            it.due.fraction("at 7", it.judge.takes(way == 0, 7), 1, 2);
            it.due.fraction("at 13", it.judge.takes(way == 0, 13), 0, 1);
            it.due.fraction("at 14", it.judge.takes(way == 0, 14), 1, 4);
        }
        return it.due;
    }

    private static Due aboveNoughtOneOrNought() {
        Bench it = new Bench("14: whether it is above 0, 1 or 0: 1 for the least chance, 0 for none alone");
        eightOnes(it);
        it.due.fine("numbers", it.judge.numbers(5, 5, 5));
        it.due.fraction("1 of 2 to the 30", it.judge.takes(true, 0), 1, 1L << 30);
        it.due.fraction("1 of 2 to the 30", it.judge.takes(false, 0), 1, 1L << 30);
        it.table(0, 0, 1);
        it.due.fraction("none", it.judge.takes(true, 0), 0, 1);
        return it.due;
    }

    private static Due wthWord() {
        Bench it = new Bench("CHANCES: DONE at the tick at which the w-th word comes: the first, the last");
        it.table(0, 1, 1);
        it.due.fine("numbers", it.judge.numbers(5, 1, 1));
        it.due.fraction("the first of five at 1", it.judge.takes(true, 1), 1, 32);
        it.due.fine("numbers", it.judge.numbers(5, 5, 1));
        it.due.fraction("the fifth of five at 0", it.judge.takes(true, 0), 1, 32);
        it.due.fine("numbers", it.judge.numbers(5, 3, 1));
        it.due.fraction("the third of five at 0", it.judge.takes(true, 0), 1, 2);
        return it.due;
    }

    private static Due takesNeverGreat() {
        Bench it = new Bench("14: the greatest sums of weights are not GREAT for two TABLES");
        eightOnes(it);
        it.due.fine("numbers", it.judge.numbers(5, 1, 5));
        it.due.fraction("all five at 14", it.judge.takes(true, 14), 1, 1L << 30);
        it.due.fraction("all five by 14", it.judge.takes(false, 14), (1L << 30) - 63L * 63 * 63 * 63 * 63, 1L << 30);
        return it.due;
    }

    private static void eightOnes(Bench it) {
        for (int table = 0; table < 4; table++) {
            it.table(table, 1, 1, 1, 1, 1, 1, 1, 1);
        }
    }

    // ---- promise 15: odds

    private static Due behindBeyond() {
        Bench it = new Bench("CHANCES: t 0 to 100");
        for (int t : new int[] {-1, 101, MIN, MAX}) {
            it.due.refused("odds(" + t + ", 0, 0)", it.judge.odds(t, 0, 0), 1);
        }
        it.due.fraction("odds(0, 0, 0)", it.judge.odds(0, 0, 0), 0, 1);
        it.due.fraction("odds(100, 0, 0)", it.judge.odds(100, 0, 0), 0, 1);
        return it.due;
    }

    private static Due aheadBeyond() {
        Bench it = new Bench("CHANCES: K WRITES (0 to 3)");
        for (int ahead : new int[] {-1, 4, MIN, MAX}) {
            it.due.refused("odds(0, " + ahead + ", 0)", it.judge.odds(0, ahead, 0), 1);
        }
        it.due.fraction("odds(0, 3, 0)", it.judge.odds(0, 3, 0), 0, 1);
        return it.due;
    }

    private static Due agesBeyond() {
        Bench it = new Bench("15: above k (0 to K)");
        for (int ahead = 0; ahead <= 3; ahead++) {
            it.due.fraction("k 0", it.judge.odds(0, ahead, 0), 0, 1);
            it.due.fraction("k K", it.judge.odds(0, ahead, ahead), 0, 1);
            it.due.refused("k above K", it.judge.odds(0, ahead, ahead + 1), 1);
            it.due.refused("k -1", it.judge.odds(0, ahead, -1), 1);
        }
        it.due.refused("k MAX", it.judge.odds(0, 3, MAX), 1);
        it.due.refused("k MIN", it.judge.odds(0, 3, MIN), 1);
        return it.due;
    }

    private static Due atTheSameTick() {
        Bench it = new Bench("CHANCES: a WRITE's letter that comes at the same tick is there");
        halfLate(it, 7);
        it.due.fraction("asked at 6", it.judge.odds(6, 0, 0), 1, 4);
        it.due.fraction("asked at 7", it.judge.odds(7, 0, 0), 0, 1);
        it.table(2, 0, 0, 0, 0, 0, 0, 0, 1);
        it.due.fraction("begun at 0, asked at 7", it.judge.odds(0, 0, 0), 0, 1);
        it.table(2, 0, 0, 0, 0, 0, 0, 1);
        it.due.fraction("begun at 0, asked at 6", it.judge.odds(0, 0, 0), 1, 4);
        it.due.fraction("begun at 1, asked at 7", it.judge.odds(1, 0, 0), 0, 1);
        return it.due;
    }

    private static Due ofOneTickTheLesser() {
        Bench it = new Bench("CHANCES: the first r answers, of one tick those of the lesser COPIES");
        halfLate(it, 1);
        // Both answer at once; COPY 0's alone counts: it has nothing yet in one way of four.
        it.due.fraction("one of two", it.judge.odds(0, 0, 0), 1, 4);
        it.due.fine("numbers", it.judge.numbers(3, 1, 2));
        // COPIES 0 and 1 have nothing, COPY 2 has it.
        it.due.fraction("two of three", it.judge.odds(0, 0, 0), 1, 8);
        it.due.fine("numbers", it.judge.numbers(3, 2, 1));
        it.due.fraction("one of three, two that have it", it.judge.odds(0, 0, 0), 1, 8);
        return it.due;
    }

    private static Due byTheTicksAtWhichTheyCome() {
        Bench it = new Bench("CHANCES: the first r answers, by the ticks at which they come");
        halfLate(it, 1);
        // Whichever answer first, all were asked at the WRITE's end: two, three have nothing, the other has it.
        it.table(3, 1, 1);
        it.due.fine("numbers", it.judge.numbers(3, 1, 2));
        it.due.fraction("two of three", it.judge.odds(0, 0, 0), 1, 8);
        it.table(3, 1, 1, 1);
        it.due.fine("numbers", it.judge.numbers(4, 1, 3));
        it.due.fraction("three of four", it.judge.odds(0, 0, 0), 1, 16);
        // Two are asked and answer at 0, with nothing; the third has it, and answers at 1 or is the greatest.
        it.table(2, 1, 1);
        it.table(3, 1);
        it.due.fine("numbers", it.judge.numbers(3, 1, 2));
        it.due.fraction("two of three, asked at 0 or 1", it.judge.odds(0, 0, 0), 1, 16);
        return it.due;
    }

    private static Due enoughWaitsAndAsks() {
        Bench it = new Bench("CHANCES: MISSES: none of the r has it; w and r above N together never miss");
        eightOnes(it);
        for (int n = 1; n <= 4; n++) {
            for (int w = 1; w <= n; w++) {
                it.due.fine("numbers", it.judge.numbers(n, w, n - w + 1));
                it.due.fraction("N " + n + ", w " + w, it.judge.odds(0, 0, 0), 0, 1);
                if (w < n) {
                    it.due.fine("numbers", it.judge.numbers(n, w, n - w));
                    it.due.fine("one ASK less", it.judge.odds(0, 0, 0), 1);
                }
            }
        }
        return it.due;
    }

    private static Due oneCopyHasIt() {
        Bench it = new Bench("CHANCES: one COPY has the WRITE as it is DONE");
        eightOnes(it);
        it.due.fine("numbers", it.judge.numbers(1, 1, 1));
        for (int ahead = 0; ahead <= 3; ahead++) {
            it.due.fraction("K " + ahead, it.judge.odds(0, ahead, 0), 0, 1);
        }
        return it.due;
    }

    private static Due noneOfThem() {
        Bench it = new Bench("CHANCES: AGE K + 1 if it has none of them");
        halfLate(it, 1);
        it.due.fine("gap(0)", it.judge.gap(0));
        it.due.fraction("above 2", it.judge.odds(0, 3, 2), 1, 16);
        it.due.fraction("above 3: none of the four", it.judge.odds(0, 3, 3), 1, 32);
        it.due.fraction("above 0, whatever K", it.judge.odds(0, 3, 0), 1, 4);
        it.due.fraction("above 0, K 0", it.judge.odds(0, 0, 0), 1, 4);
        return it.due;
    }

    private static Due leastOfThem() {
        Bench it = new Bench("CHANCES: AGE of the READ: the least of its r");
        halfLate(it, 1);
        it.due.fine("gap(0)", it.judge.gap(0));
        it.due.fine("numbers", it.judge.numbers(3, 1, 2));
        // COPIES 0 and 1 have not got the WRITE (COPY 2 has), nor, each by half, the older one.
        it.due.fraction("odds(0, 1, 0)", it.judge.odds(0, 1, 0), 1, 8);
        it.due.fraction("odds(0, 1, 1)", it.judge.odds(0, 1, 1), 1, 32);
        return it.due;
    }

    /** GREAT's edge: sums of TABLES that are just below, and others just above. */
    private static Due greatEdge(int n, int ahead, int[] below, int[] above) {
        Bench it = new Bench("CHANCES: GREAT: 2 to the power 62 or more, N " + n + ", K " + ahead);
        it.due.fine("numbers", it.judge.numbers(n, 1, 1));
        for (int table = 0; table < 4; table++) {
            it.table(table, below[table]);
        }
        it.due.fraction("just below", it.judge.odds(0, ahead, 0), 0, 1);
        it.due.fine("choose", it.judge.choose(n, 0, ahead, 0, 0, 1, 0, 0, 0), 111);
        for (int table = 0; table < 4; table++) {
            it.table(table, above[table]);
        }
        it.due.refused("just above", it.judge.odds(0, ahead, 0), 9);
        it.due.refused("choose", it.judge.choose(n, 0, ahead, 0, 0, 1, 0, 0, 0), 9);
        it.due.is("top()", it.judge.top(), 0);
        it.due.is("bottom()", it.judge.bottom(), 1);
        return it.due;
    }

    private static Due greatWrapsAround() {
        Bench it = new Bench("CHANCES: GREAT: products that wrap around are GREAT all the same");
        it.due.fine("numbers", it.judge.numbers(4, 1, 1));
        it.table(0, 8);
        it.table(1, 8);
        it.table(2, 2);
        it.due.refused("2 to the power 64, that is 0", it.judge.odds(0, 3, 3), 9);
        it.table(0, 7);
        it.table(1, 3);
        it.table(2, 5);
        it.table(3, 5);
        it.due.refused("180,075 to the 4, that is 46,281,602,337,198,513", it.judge.odds(0, 3, 3), 9);
        it.due.fine("numbers", it.judge.numbers(5, 1, 1));
        it.table(0, 8);
        it.table(1, 8);
        it.table(2, 8);
        it.table(3, 8);
        it.due.refused("2 to the power 105, that is 0", it.judge.odds(0, 3, 3), 9);
        return it.due;
    }

    private static Due greatByAhead() {
        Bench it = new Bench("CHANCES: GREAT: K times TABLE 0 more, whatever k");
        eightOnes(it);
        it.due.fine("numbers", it.judge.numbers(5, 3, 3));
        it.due.fraction("K 0: 2 to the 60", it.judge.odds(0, 0, 0), 0, 1);
        it.due.refused("K 1, k 0", it.judge.odds(0, 1, 0), 9);
        it.due.refused("K 1, k 1", it.judge.odds(0, 1, 1), 9);
        it.due.refused("K 1, k 2", it.judge.odds(0, 1, 2), 1);
        it.due.refused("K 4, k 0", it.judge.odds(0, 4, 0), 1);
        it.table(0, 1);
        it.due.fraction("1 for TABLE 0, K 3", it.judge.odds(0, 3, 0), 0, 1);
        return it.due;
    }

    private static Due greatestFraction() {
        Bench it = new Bench("15: a FRACTION by 2 to the power 60");
        eightOnes(it);
        it.due.fine("numbers", it.judge.numbers(5, 1, 1));
        // Every outcome is counted by its ticks: the model beside FuzzTest tells the same.
        Model model = new Model();
        model.sheet(3, 1, 8);
        for (int place = 0; place < 8; place++) {
            model.write(3, place, 1);
        }
        for (int table = 0; table < 4; table++) {
            model.table(table, 3, 8);
        }
        model.numbers(5, 1, 1);
        for (int t = 0; t < 8; t++) {
            it.due.is("odds(" + t + ", 0, 0)", it.judge.odds(t, 0, 0), model.odds(t, 0, 0));
            it.due.is("top()", it.judge.top(), model.top);
            it.due.is("bottom()", it.judge.bottom(), model.bottom);
        }
        return it.due;
    }

    // ---- promise 16 and the term CHOICE

    /** The numbers of a choose() that is fine, with one of them another one. */
    private static int choose(Bench it, int which, int number) {
        int[] x = {5, 50, 2, 1, 1, 2, 10, 10, 10};
        x[which] = number;
        return it.judge.choose(x[0], x[1], x[2], x[3], x[4], x[5], x[6], x[7], x[8]);
    }

    private static Due choiceEdge(String what, int which, int least, int most) {
        Bench it = new Bench("16: " + what + " " + least + " to " + most);
        it.due.fine("the least", choose(it, which, least), 111);
        it.due.fine("the most", choose(it, which, most), 111);
        for (int beyond : new int[] {least - 1, most + 1, MIN, MAX}) {
            it.due.refused("" + beyond, choose(it, which, beyond), 1);
        }
        return it.due;
    }

    private static Due topAboveBottom() {
        Bench it = new Bench("16: top not above it");
        it.due.fine("1 by 1", it.judge.choose(2, 0, 0, 0, 1, 1, 1, 1, 1), 111);
        it.due.refused("2 by 1", it.judge.choose(2, 0, 0, 0, 2, 1, 1, 1, 1), 1);
        it.due.fine("a million by a million", it.judge.choose(2, 0, 0, 0, 1000000, 1000000, 1, 1, 1), 111);
        it.due.refused("one more by a million", it.judge.choose(2, 0, 0, 0, 1000001, 1000000, 1, 1, 1), 1);
        it.due.refused("-1 by 1", it.judge.choose(2, 0, 0, 0, -1, 1, 1, 1, 1), 1);
        return it.due;
    }

    private static Due choiceOfLikePrices() {
        Bench it = new Bench("CHOICE: of several that with the least N, then w, then r");
        eightOnes(it);
        it.due.fine("no prices", it.judge.choose(5, 0, 0, 0, 1, 1, 0, 0, 0), 111);
        it.due.fine("COPIES' prices alone", it.judge.choose(5, 0, 0, 0, 1, 1, 1000, 0, 0), 111);
        it.due.fine("WAITS' prices alone", it.judge.choose(5, 0, 0, 0, 1, 1, 0, 1000, 0), 111);
        it.due.fine("ASKS' prices alone", it.judge.choose(5, 0, 0, 0, 1, 1, 0, 0, 1000), 111);
        return it.due;
    }

    private static Due choiceOfNoChance() {
        Bench it = new Bench("CHOICE: not above a told FRACTION: 0 is kept by what never misses");
        eightOnes(it);
        for (int most = 1; most <= 5; most++) {
            it.due.fine("most " + most, it.judge.choose(most, 0, 0, 0, 0, 1, 1, 1, 1), 111);
        }
        return it.due;
    }

    private static Due anyIsGreat() {
        Bench it = new Bench("16: 9: any is GREAT, NONE then");
        eightOnes(it);
        it.due.fine("most 4", it.judge.choose(4, 0, 1, 0, 1, 1, 1, 1, 1), 111);
        it.due.refused("most 5", it.judge.choose(5, 0, 1, 0, 1, 1, 1, 1, 1), 9);
        it.due.refused("1 ahead of 9", it.judge.choose(5, 0, 1, 0, 1, 1, 1, 1, 1001), 1);
        return it.due;
    }

    private static Due numbersStay() {
        Bench it = new Bench("16: N, w, r stay, and the FRACTION");
        it.table(0, 1, 1);
        it.table(2, 1, 1);
        it.due.fine("numbers", it.judge.numbers(4, 3, 1));
        it.due.fraction("takes(true, 0)", it.judge.takes(true, 0), 5, 16);
        it.due.fine("choose", it.judge.choose(5, 0, 0, 0, 0, 1, 1, 1, 1), 111);
        it.due.is("top()", it.judge.top(), 5);
        it.due.is("bottom()", it.judge.bottom(), 16);
        it.due.fraction("takes(true, 0)", it.judge.takes(true, 0), 5, 16);
        it.due.fraction("takes(false, 0)", it.judge.takes(false, 0), 15, 16);
        it.due.fine("begin", it.judge.begin());
        it.due.fine("of(3, 0)", it.judge.of(3, 0), 0);
        return it.due;
    }

    public static void main(String[] args) {
        Due.end(copiesAtFirst(), waitsAndAsksAtFirst(), gapAtFirst(), tablesAtFirst(),
                allNumbers(), copiesBeyond(), waitsBeyond(), asksBeyond(), refusedNumbers(),
                gapBeyond(), gapOfNone(), greatestGap(), gapJustCovered(), gapTwice(),
                tableBeyond(), weightsOfNone(), weightsOfNine(), tableInOrder(), weightBelow(), noWeight(),
                mostWeight(), weightsThatWrapAround(), noughtBeyond(), eachTable(),
                ticksBeyond(), firstAndLastTick(), aboveNoughtOneOrNought(), wthWord(), takesNeverGreat(),
                behindBeyond(), aheadBeyond(), agesBeyond(), atTheSameTick(), ofOneTickTheLesser(), byTheTicksAtWhichTheyCome(),
                enoughWaitsAndAsks(), oneCopyHasIt(), noneOfThem(), leastOfThem(),
                greatEdge(3, 3, new int[] {8, 7, 7, 8}, new int[] {8, 7, 8, 8}),
                greatEdge(4, 2, new int[] {8, 3, 5, 6}, new int[] {6, 6, 6, 6}),
                greatEdge(4, 3, new int[] {4, 5, 6, 6}, new int[] {6, 1, 6, 6}),
                greatEdge(5, 1, new int[] {5, 6, 6, 6}, new int[] {4, 7, 7, 7}),
                greatEdge(5, 2, new int[] {3, 5, 5, 8}, new int[] {7, 1, 2, 8}),
                greatEdge(5, 3, new int[] {2, 6, 7, 8}, new int[] {2, 7, 7, 7}),
                greatWrapsAround(), greatByAhead(), greatestFraction(),
                choiceEdge("most", 0, 1, 5), choiceEdge("t", 1, 0, 100), choiceEdge("K, above k,", 2, 1, 3),
                choiceEdge("k", 3, 0, 2), choiceEdge("top by 2", 4, 0, 2), choiceEdge("bottom of 1", 5, 1, 1000000),
                choiceEdge("price of a COPY", 6, 0, 1000), choiceEdge("price of a WAIT", 7, 0, 1000),
                choiceEdge("price of an ASK", 8, 0, 1000),
                topAboveBottom(), choiceOfLikePrices(), choiceOfNoChance(), anyIsGreat(), numbersStay());
    }
}
