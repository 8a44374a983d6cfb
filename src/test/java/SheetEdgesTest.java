/** Each sentence of promises 1 to 10 that names an edge or a refusal, by itself. */
public final class SheetEdgesTest {
    private static final int MIN = Integer.MIN_VALUE;
    private static final int MAX = Integer.MAX_VALUE;
    /** What can't be a SHEET or a sort. */
    private static final int[] BEYOND = {-1, 4, MIN, MAX};
    private static final int[] BELOW = {-1, -16, MIN};

    // ---- promises 1 to 4

    private static Due noRunAtFirst() {
        Bench it = new Bench("1: A new object: no RUN");
        it.due.refused("tell(0)", it.judge.tell(0), 4);
        it.due.refused("go(0)", it.judge.go(0), 4);
        return it.due;
    }

    private static Due fractionAtFirst() {
        Bench it = new Bench("1: the FRACTION 0 by 1");
        it.due.is("top()", it.judge.top(), 0);
        it.due.is("bottom()", it.judge.bottom(), 1);
        return it.due;
    }

    private static Due statusAtFirst() {
        Bench it = new Bench("1: STATUS 0");
        it.due.is("status()", it.judge.status(), 0);
        return it.due;
    }

    private static Due missingAtFirst() {
        Bench it = new Bench("A RUN: SHEETS 0 to 3 are MISSING at first");
        for (int sheet = 0; sheet < 4; sheet++) {
            it.due.refused("read " + sheet, it.judge.read(sheet, 0), -1, 2);
            it.due.refused("write " + sheet, it.judge.write(sheet, 0, 1), 2);
            it.due.refused("drop " + sheet, it.judge.drop(sheet), 2);
        }
        return it.due;
    }

    private static Due statusOfTheLatest() {
        Bench it = new Bench("2: STATUS of the latest call that has one; top(), bottom(), status() have none");
        it.due.refused("none", it.judge.none(), 10);
        it.due.is("top()", it.judge.top(), 0);
        it.due.is("status() behind top()", it.judge.status(), 10);
        it.due.is("bottom()", it.judge.bottom(), 1);
        it.due.is("status() behind bottom()", it.judge.status(), 10);
        it.due.is("status() behind status()", it.judge.status(), 10);
        it.due.fine("gap(0)", it.judge.gap(0));
        it.due.is("top()", it.judge.top(), 0);
        it.due.is("status() behind a call that was done", it.judge.status(), 0);
        it.due.refused("gap(-1)", it.judge.gap(-1), 1);
        return it.due;
    }

    private static Due fractionOfTheLatest() {
        Bench it = new Bench("3 and 4: the FRACTION that was told latest");
        it.table(0, 3, 5);
        it.due.fine("numbers", it.judge.numbers(1, 1, 1));
        it.due.fraction("takes(true, 0)", it.judge.takes(true, 0), 3, 8);
        it.due.fraction("takes(true, 1)", it.judge.takes(true, 1), 5, 8);
        it.due.fraction("odds(0, 0, 0)", it.judge.odds(0, 0, 0), 0, 1);
        it.due.fraction("takes(false, 0)", it.judge.takes(false, 0), 1, 1);
        return it.due;
    }

    private static Due fractionOfRefused() {
        Bench it = new Bench("3 and 4: a refused call leaves the FRACTION");
        it.table(0, 3, 5);
        it.due.fine("numbers", it.judge.numbers(1, 1, 1));
        it.due.fraction("takes(true, 0)", it.judge.takes(true, 0), 3, 8);
        it.due.refused("takes(true, 15)", it.judge.takes(true, 15), 1);
        it.due.refused("takes(false, -1)", it.judge.takes(false, -1), 1);
        it.due.refused("odds(0, 0, 1)", it.judge.odds(0, 0, 1), 1);
        it.due.refused("choose(0, ..)", it.judge.choose(0, 0, 0, 0, 0, 1, 0, 0, 0), 1);
        it.due.is("top()", it.judge.top(), 3);
        it.due.is("bottom()", it.judge.bottom(), 8);
        return it.due;
    }

    private static Due noCommonDivisor() {
        Bench it = new Bench("CHANCES: a FRACTION is told without a common divisor");
        it.table(0, 2, 2, 4);
        it.due.fine("numbers", it.judge.numbers(1, 1, 1));
        it.due.fraction("2 of 8", it.judge.takes(true, 0), 1, 4);
        it.due.fraction("4 of 8", it.judge.takes(true, 2), 1, 2);
        it.due.fraction("0 of 8", it.judge.takes(true, 3), 0, 1);
        it.table(0, 8);
        it.due.fraction("8 of 8", it.judge.takes(true, 0), 1, 1);
        return it.due;
    }

    // ---- promise 5: sheet

    private static Due sheetBeyond() {
        Bench it = new Bench("5: sheet: no such SHEET, no such sort");
        for (int beyond : BEYOND) {
            it.due.refused("sheet " + beyond, it.judge.sheet(beyond, 0, 1), 1);
            it.due.refused("sort " + beyond, it.judge.sheet(0, beyond, 1), 1);
        }
        it.due.refused("read", it.judge.read(0, 0), -1, 2);
        return it.due;
    }

    private static Due sheetBelow() {
        Bench it = new Bench("5: 1 of a number below 0");
        for (int below : BELOW) {
            it.due.refused("many " + below, it.judge.sheet(0, 0, below), 1);
        }
        it.due.refused("read", it.judge.read(0, 0), -1, 2);
        return it.due;
    }

    private static Due sheetAbove() {
        Bench it = new Bench("5: 1 of a number above 16");
        it.due.refused("many 17", it.judge.sheet(0, 0, 17), 1);
        it.due.refused("many MAX", it.judge.sheet(0, 0, MAX), 1);
        it.due.refused("read", it.judge.read(0, 0), -1, 2);
        return it.due;
    }

    private static Due emptySheet() {
        Bench it = new Bench("A RUN: rows of 0 numbers");
        it.due.fine("sheet(2, 1, 0)", it.judge.sheet(2, 1, 0));
        it.due.refused("read", it.judge.read(2, 0), -1, 3);
        it.due.refused("write", it.judge.write(2, 0, 1), 3);
        it.due.fine("copy of none", it.judge.copy(2, 0, 2, 0, 0));
        it.due.refused("copy of one", it.judge.copy(2, 0, 2, 0, 1), 3);
        it.due.refused("table of one", it.judge.table(0, 2, 1), 3);
        it.due.fine("drop", it.judge.drop(2));
        return it.due;
    }

    private static Due fullSheets() {
        Bench it = new Bench("A RUN: SHEETS 0 to 3, rows of 16 numbers");
        for (int sheet = 0; sheet < 4; sheet++) {
            it.due.fine("sheet " + sheet, it.judge.sheet(sheet, 3, 16));
            it.due.fine("write the first", it.judge.write(sheet, 0, 100 + sheet));
            it.due.fine("write the last", it.judge.write(sheet, 15, -100 - sheet));
        }
        for (int sheet = 0; sheet < 4; sheet++) {
            it.due.fine("read the first", it.judge.read(sheet, 0), 100 + sheet);
            it.due.fine("read the last", it.judge.read(sheet, 15), -100 - sheet);
            it.due.refused("read behind the last", it.judge.read(sheet, 16), -1, 3);
        }
        return it.due;
    }

    private static Due rowOfNoughts() {
        Bench it = new Bench("5: a SHEET is a row of so many 0s, anew too");
        it.sheet(1, 3, 5, 6, 7);
        it.due.fine("shorter, of another sort", it.judge.sheet(1, 0, 2));
        it.row(1, 0, 0);
        it.due.refused("the third", it.judge.read(1, 2), -1, 3);
        it.due.fine("write", it.judge.write(1, 0, 256));
        it.row(1, 0, 0);
        it.due.fine("longer again", it.judge.sheet(1, 3, 3));
        it.row(1, 0, 0, 0);
        return it.due;
    }

    private static Due refusedSheet() {
        Bench it = new Bench("5: a refused sheet() leaves the one that is there");
        it.sheet(1, 3, 5, 600);
        it.due.refused("sheet(1, 0, 17)", it.judge.sheet(1, 0, 17), 1);
        it.due.refused("sheet(1, 4, 1)", it.judge.sheet(1, 4, 1), 1);
        it.due.refused("sheet(1, 0, -1)", it.judge.sheet(1, 0, -1), 1);
        it.row(1, 5, 600);
        it.due.fine("its sort too", it.judge.write(1, 0, 700));
        it.row(1, 700, 600);
        return it.due;
    }

    // ---- promises 6 and 7: write, read

    /** A sort's greatest and least numbers, and those behind them, that come in from the other end. */
    private static Due wrapsAround(int sort, int bits) {
        Bench it = new Bench("6: a number is cut to its sort: " + bits + " bits");
        it.sheet(0, sort, 0, 0, 0);
        long half = 1L << bits - 1;
        it.wrap(half - 1, half - 1);
        it.wrap(-half, -half);
        it.wrap(half, -half);
        it.wrap(-half - 1, half - 1);
        it.wrap(2 * half - 1, -1);
        it.wrap(2 * half, 0);
        it.wrap(2 * half + 5, 5);
        it.wrap(Long.MAX_VALUE, -1);
        it.wrap(Long.MIN_VALUE, 0);
        return it.due;
    }

    private static Due longNumbers() {
        Bench it = new Bench("6: a number of 64 bits is not cut");
        it.sheet(0, 3, 0, 0, 0);
        it.wrap(Long.MAX_VALUE, Long.MAX_VALUE);
        it.wrap(Long.MIN_VALUE, Long.MIN_VALUE);
        it.wrap(1L << 32, 1L << 32);
        it.wrap(-1, -1);
        return it.due;
    }

    private static Due placeItHasNot() {
        Bench it = new Bench("6 and 7: 3 a place that the SHEET has not");
        it.sheet(0, 0, 7, 8);
        for (int place : new int[] {-1, 2, 15, 16, MIN, MAX}) {
            it.due.refused("read at " + place, it.judge.read(0, place), -1, 3);
            it.due.refused("write at " + place, it.judge.write(0, place, 1), 3);
        }
        it.row(0, 7, 8);
        return it.due;
    }

    private static Due sheetItHasNot() {
        Bench it = new Bench("6 and 7: 1 no such SHEET");
        for (int beyond : BEYOND) {
            it.due.refused("read " + beyond, it.judge.read(beyond, 0), -1, 1);
            it.due.refused("write " + beyond, it.judge.write(beyond, 0, 1), 1);
        }
        return it.due;
    }

    private static Due readAndWriteInOrder() {
        Bench it = new Bench("6 and 7: 1 ahead of 3, 2 ahead of 3");
        it.due.refused("read(4, -1)", it.judge.read(4, -1), -1, 1);
        it.due.refused("write(-1, 16)", it.judge.write(-1, 16, 1), 1);
        it.due.refused("read(0, -1)", it.judge.read(0, -1), -1, 2);
        it.due.refused("write(0, 16)", it.judge.write(0, 16, 1), 2);
        return it.due;
    }

    private static Due noneFromMinusOne() {
        Bench it = new Bench("7: STATUS tells NONE from -1");
        for (int sort = 0; sort < 4; sort++) {
            it.sheet(sort, sort, -1);
            it.due.fine("read of -1", it.judge.read(sort, 0), -1);
            it.due.refused("read of none", it.judge.read(sort, 1), -1, 3);
        }
        return it.due;
    }

    // ---- promise 8: copy

    private static Due copyBelow() {
        Bench it = new Bench("8: copy: 1: below 0, too");
        it.sheet(0, 0, 1, 2);
        it.sheet(1, 0, 3, 4);
        for (int below : BELOW) {
            it.due.refused("many " + below, it.judge.copy(0, 0, 1, 0, below), 1);
            it.due.refused("place " + below, it.judge.copy(0, below, 1, 0, 1), 1);
            it.due.refused("at " + below, it.judge.copy(0, 0, 1, below, 1), 1);
            it.due.refused("none, place " + below, it.judge.copy(0, below, 1, 0, 0), 1);
            it.due.refused("none, at " + below, it.judge.copy(0, 0, 1, below, 0), 1);
        }
        it.row(0, 1, 2);
        it.row(1, 3, 4);
        return it.due;
    }

    private static Due copySheets() {
        Bench it = new Bench("8: copy: 1 no such SHEET");
        it.sheet(0, 0, 1, 2);
        for (int beyond : BEYOND) {
            it.due.refused("from " + beyond, it.judge.copy(beyond, 0, 0, 0, 1), 1);
            it.due.refused("to " + beyond, it.judge.copy(0, 0, beyond, 0, 1), 1);
        }
        it.row(0, 1, 2);
        return it.due;
    }

    private static Due copyMissing() {
        Bench it = new Bench("8: copy: 2 a MISSING SHEET");
        it.sheet(0, 0, 1, 2);
        it.due.refused("from a MISSING one", it.judge.copy(1, 0, 0, 0, 1), 2);
        it.due.refused("to a MISSING one", it.judge.copy(0, 0, 1, 0, 1), 2);
        it.due.refused("of none too", it.judge.copy(1, 0, 2, 0, 0), 2);
        it.due.refused("a MISSING one's own", it.judge.copy(1, 0, 1, 0, 0), 2);
        it.row(0, 1, 2);
        return it.due;
    }

    private static Due copyBeyond() {
        Bench it = new Bench("8: copy: 3 a place that the SHEET has not, or too few numbers");
        it.sheet(0, 0, 1, 2, 3);
        it.sheet(1, 0, 4, 5);
        it.due.refused("too few to come from", it.judge.copy(0, 2, 1, 0, 2), 3);
        it.due.refused("too few to come to", it.judge.copy(0, 0, 1, 1, 2), 3);
        it.due.refused("more than either has", it.judge.copy(0, 0, 1, 0, 17), 3);
        it.due.refused("a place behind the last", it.judge.copy(0, 3, 1, 0, 1), 3);
        it.due.refused("at behind the last", it.judge.copy(0, 0, 1, 2, 1), 3);
        it.due.refused("none from far behind", it.judge.copy(0, 4, 1, 0, 0), 3);
        it.due.refused("none to far behind", it.judge.copy(0, 0, 1, 3, 0), 3);
        it.due.refused("sums that wrap around", it.judge.copy(0, MAX, 1, MAX, MAX), 3);
        it.due.refused("a sum that wraps around", it.judge.copy(0, 1, 1, 1, MAX), 3);
        it.due.refused("a sum that wraps around", it.judge.copy(0, MAX, 1, 1, 1), 3);
        it.due.refused("a sum that wraps around", it.judge.copy(0, 1, 1, MAX, 1), 3);
        it.row(0, 1, 2, 3);
        it.row(1, 4, 5);
        return it.due;
    }

    private static Due copyInOrder() {
        Bench it = new Bench("8: copy: 1 ahead of 2, 2 ahead of 3, of whichever SHEET");
        it.sheet(0, 0, 1, 2);
        it.due.refused("below 0 ahead of MISSING", it.judge.copy(1, 0, 2, 0, -1), 1);
        it.due.refused("to ahead of a MISSING from", it.judge.copy(1, 0, 4, 0, 1), 1);
        it.due.refused("at ahead of a MISSING from", it.judge.copy(1, 0, 0, -1, 1), 1);
        it.due.refused("at ahead of a place beyond", it.judge.copy(0, 99, 0, -1, 1), 1);
        it.due.refused("place ahead of a MISSING to", it.judge.copy(0, -1, 1, 0, 1), 1);
        it.due.refused("a MISSING to ahead of a place beyond", it.judge.copy(0, 99, 1, 0, 1), 2);
        it.due.refused("a MISSING from ahead of a place beyond", it.judge.copy(1, 0, 0, 99, 1), 2);
        it.row(0, 1, 2);
        return it.due;
    }

    private static Due copyOfNone() {
        Bench it = new Bench("8: copy of no numbers at all");
        it.sheet(0, 0, 1, 2);
        it.due.fine("of none", it.judge.copy(0, 0, 0, 1, 0));
        it.due.fine("of none, just behind the last", it.judge.copy(0, 2, 0, 2, 0));
        it.row(0, 1, 2);
        return it.due;
    }

    private static Due copyOfAll() {
        Bench it = new Bench("8: copy of all 16");
        it.due.fine("sheet", it.judge.sheet(0, 3, 16));
        it.due.fine("sheet", it.judge.sheet(1, 3, 16));
        it.due.fine("sheet", it.judge.sheet(2, 3, 16));
        for (int place = 0; place < 16; place++) {
            it.due.fine("write", it.judge.write(0, place, 70 + place));
            it.due.fine("write", it.judge.write(2, place, -1));
        }
        it.due.fine("copy", it.judge.copy(0, 0, 1, 0, 16));
        for (int sheet = 0; sheet < 2; sheet++) {
            it.row(sheet, 70, 71, 72, 73, 74, 75, 76, 77, 78, 79, 80, 81, 82, 83, 84, 85);
        }
        it.due.fine("the next SHEET's first", it.judge.read(2, 0), -1);
        it.due.fine("the last alone", it.judge.copy(0, 15, 2, 0, 1));
        it.row(2, 85, -1);
        return it.due;
    }

    private static Due copyOverItself() {
        Bench it = new Bench("8: copy to its own place on, from numbers as they were");
        it.sheet(0, 1, 1, 2, 3, 4, 5);
        it.due.fine("up", it.judge.copy(0, 0, 0, 2, 3));
        it.row(0, 1, 2, 1, 2, 3);
        it.due.fine("down", it.judge.copy(0, 2, 0, 1, 3));
        it.row(0, 1, 1, 2, 3, 3);
        it.due.fine("onto the same", it.judge.copy(0, 0, 0, 0, 5));
        it.row(0, 1, 1, 2, 3, 3);
        return it.due;
    }

    private static Due copyCuts() {
        Bench it = new Bench("8: copy: cut to its sort");
        long number = (1L << 40) + (1L << 31) + (1L << 15) + 128;
        it.sheet(3, 3, number);
        long[] cut = {-128, -32768 + 128, (int) number};
        for (int sort = 0; sort < 3; sort++) {
            it.sheet(sort, sort, 0, 0);
            it.due.fine("copy to sort " + sort, it.judge.copy(3, 0, sort, 0, 1));
            it.row(sort, cut[sort], 0);
        }
        it.row(3, number);
        it.due.fine("copy to a greater sort", it.judge.copy(0, 0, 3, 0, 1));
        it.row(3, -128);
        return it.due;
    }

    // ---- promises 9 and 10: drop, none

    private static Due drops() {
        Bench it = new Bench("9: a SHEET is MISSING");
        it.sheet(0, 0, 1);
        it.sheet(1, 0, 2);
        it.due.fine("drop", it.judge.drop(0));
        it.due.refused("read", it.judge.read(0, 0), -1, 2);
        it.due.refused("drop once more", it.judge.drop(0), 2);
        it.row(1, 2);
        it.due.fine("laid anew", it.judge.sheet(0, 0, 1));
        it.row(0, 0);
        return it.due;
    }

    private static Due dropBeyond() {
        Bench it = new Bench("9: drop: 1 no such SHEET");
        for (int beyond : BEYOND) {
            it.due.refused("drop " + beyond, it.judge.drop(beyond), 1);
        }
        return it.due;
    }

    private static Due dropLeavesTables() {
        Bench it = new Bench("9: what a TABLE took from a SHEET stays as that is MISSING");
        it.table(0, 1, 1);
        it.due.fine("numbers", it.judge.numbers(1, 1, 1));
        it.due.fine("drop", it.judge.drop(3));
        it.due.fraction("takes(true, 1)", it.judge.takes(true, 1), 1, 2);
        return it.due;
    }

    private static Due actThatIsNone() {
        Bench it = new Bench("10: an act that is none: false, STATUS 10");
        it.due.refused("without a RUN", it.judge.none(), 10);
        it.run(1, 1, 1);
        it.write(1, 5, 5);
        it.due.refused("with a RUN", it.judge.none(), 10);
        it.tells(0, 1, 0, 1, 0, 0, 0);
        return it.due;
    }

    private static Due lastOfManyCalls() {
        Bench it = new Bench("What it is: an object is used for at most 512 calls: the last ones answer as the first");
        it.run(1, 1, 1);
        it.sheet(0, 0, 3, 4);
        // Up to here 10 calls: each of those of Bench is one, and one more for its STATUS.
        for (int call = 10; call < 506; call++) {
            it.due.is("call " + call, it.judge.go(1), call - 9);
        }
        it.due.fine("writes", it.judge.writes(0), 1);
        it.due.fine("go", it.judge.go(7), 503);
        it.due.fine("done", it.judge.done(1), 503);
        return it.due;
    }

    public static void main(String[] args) {
        Due.end(noRunAtFirst(), fractionAtFirst(), statusAtFirst(), missingAtFirst(), statusOfTheLatest(),
                fractionOfTheLatest(), fractionOfRefused(), noCommonDivisor(),
                sheetBeyond(), sheetBelow(), sheetAbove(), emptySheet(), fullSheets(), rowOfNoughts(), refusedSheet(),
                wrapsAround(0, 8), wrapsAround(1, 16), wrapsAround(2, 32), longNumbers(), placeItHasNot(),
                sheetItHasNot(), readAndWriteInOrder(), noneFromMinusOne(),
                copyBelow(), copySheets(), copyMissing(), copyBeyond(), copyInOrder(), copyOfNone(), copyOfAll(),
                copyOverItself(), copyCuts(), drops(), dropBeyond(), dropLeavesTables(), actThatIsNone(), lastOfManyCalls());
    }
}
