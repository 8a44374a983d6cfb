/** Promises 1, 2 and 5 to 10. */
public final class SheetsTest {
    private static final int[] BEYOND = {-1, 4, Integer.MIN_VALUE, Integer.MAX_VALUE};

    private static Due fresh() {
        Bench it = new Bench("promises 1 and 2");
        Due due = it.due;
        ReadAge judge = it.judge;
        due.is("NONE", ReadAge.NONE, -1);
        due.is("status()", judge.status(), 0);
        due.is("top()", judge.top(), 0);
        due.is("bottom()", judge.bottom(), 1);
        for (int sheet = 0; sheet < 4; sheet++) {
            due.refused("read of a MISSING SHEET", judge.read(sheet, 0), -1, 2);
        }
        due.refused("no RUN", judge.tell(0), 4);
        due.is("status() once more", judge.status(), 4);
        judge.top();
        judge.bottom();
        due.is("status() behind top() and bottom()", judge.status(), 4);
        due.fine("gap(1)", judge.gap(1));
        // One object knows nothing of another.
        ReadAge other = new ReadAge();
        other.sheet(0, 0, 3);
        other.begin();
        due.refused("read", judge.read(0, 0), -1, 2);
        due.refused("tell", judge.tell(0), 4);
        return due;
    }

    private static Due sheet() {
        Bench it = new Bench("promise 5");
        Due due = it.due;
        ReadAge judge = it.judge;
        for (int beyond : BEYOND) {
            due.refused("sheet " + beyond, judge.sheet(beyond, 0, 1), 1);
            due.refused("sort " + beyond, judge.sheet(0, beyond, 1), 1);
        }
        for (int beyond : new int[] {-1, 17, Integer.MIN_VALUE, Integer.MAX_VALUE}) {
            due.refused("many " + beyond, judge.sheet(0, 0, beyond), 1);
        }
        due.refused("still MISSING", judge.read(0, 0), -1, 2);
        for (int sheet = 0; sheet < 4; sheet++) {
            due.fine("sheet of 16", judge.sheet(sheet, sheet, 16));
            for (int place = 0; place < 16; place++) {
                due.fine("read", judge.read(sheet, place), 0);
                due.fine("write", judge.write(sheet, place, 10 * sheet + place));
            }
            due.refused("read beyond", judge.read(sheet, 16), -1, 3);
        }
        for (int sheet = 0; sheet < 4; sheet++) {
            for (int place = 0; place < 16; place++) {
                due.fine("each place for itself", judge.read(sheet, place), 10 * sheet + place);
            }
        }
        due.refused("a refused one changes nothing", judge.sheet(1, 0, 17), 1);
        due.fine("read", judge.read(1, 15), 25);
        due.fine("anew", judge.sheet(1, 0, 2));
        due.fine("read", judge.read(1, 0), 0);
        due.refused("read", judge.read(1, 2), -1, 3);
        due.fine("anew, longer", judge.sheet(1, 3, 5));
        due.fine("0s again", judge.read(1, 4), 0);
        due.fine("none at all", judge.sheet(1, 0, 0));
        due.refused("read", judge.read(1, 0), -1, 3);
        due.fine("drop of an empty one", judge.drop(1));
        return due;
    }

    private static Due writeAndRead() {
        Bench it = new Bench("promises 6 and 7");
        Due due = it.due;
        ReadAge judge = it.judge;
        long[] values = {0, 1, -1, 127, 128, 255, 256, 300, -129, 32767, 32768, 65535, -32769, 1L << 31,
            (1L << 31) - 1, 1L << 32, (1L << 40) + 77, Long.MAX_VALUE, Long.MIN_VALUE};
        for (int sort = 0; sort < 4; sort++) {
            judge.sheet(sort, sort, 2);
            for (long value : values) {
                long cut = sort == 0 ? (byte) value : sort == 1 ? (short) value : sort == 2 ? (int) value : value;
                due.fine("write " + value, judge.write(sort, 1, value));
                due.fine("read of sort " + sort + " of " + value, judge.read(sort, 1), cut);
                due.fine("read beside it", judge.read(sort, 0), 0);
            }
        }
        judge.drop(3);
        due.refused("write MISSING", judge.write(3, 0, 1), 2);
        due.refused("write MISSING at a place beyond", judge.write(3, -1, 1), 2);
        due.refused("read MISSING", judge.read(3, 99), -1, 2);
        for (int beyond : BEYOND) {
            due.refused("write " + beyond, judge.write(beyond, 0, 1), 1);
            due.refused("read " + beyond, judge.read(beyond, 0), -1, 1);
        }
        for (int beyond : new int[] {-1, 2, 16, Integer.MIN_VALUE, Integer.MAX_VALUE}) {
            due.refused("write at " + beyond, judge.write(0, beyond, 1), 3);
            due.refused("read at " + beyond, judge.read(0, beyond), -1, 3);
        }
        judge.write(0, 0, -1);
        due.fine("read of -1", judge.read(0, 0), -1);
        return due;
    }

    private static Due copy() {
        Bench it = new Bench("promise 8");
        Due due = it.due;
        ReadAge judge = it.judge;
        judge.sheet(0, 3, 5);
        judge.sheet(1, 0, 4);
        for (int i = 0; i < 5; i++) {
            judge.write(0, i, 300 + i);
        }
        due.fine("copy", judge.copy(0, 1, 1, 0, 3));
        it.row(1, 45, 46, 47, 0);
        it.row(0, 300, 301, 302, 303, 304);
        // Stretches of one SHEET that lie over one another, both ways.
        due.fine("copy up", judge.copy(0, 0, 0, 1, 4));
        it.row(0, 300, 300, 301, 302, 303);
        due.fine("copy down", judge.copy(0, 2, 0, 0, 3));
        it.row(0, 301, 302, 303, 302, 303);
        due.fine("copy onto itself", judge.copy(0, 0, 0, 0, 5));
        it.row(0, 301, 302, 303, 302, 303);
        due.fine("copy of none", judge.copy(0, 0, 1, 3, 0));
        due.fine("copy back", judge.copy(1, 2, 0, 4, 1));
        it.row(0, 301, 302, 303, 302, 47);
        due.refused("one too many of the first", judge.copy(0, 3, 1, 0, 3), 3);
        due.refused("one too many of the second", judge.copy(0, 0, 1, 2, 3), 3);
        due.refused("a place beyond", judge.copy(0, 6, 1, 0, 0), 3);
        due.refused("a place beyond", judge.copy(0, 0, 1, 5, 0), 3);
        due.refused("far too many", judge.copy(0, 1, 1, 1, Integer.MAX_VALUE), 3);
        due.refused("far beyond", judge.copy(0, Integer.MAX_VALUE, 1, 1, 1), 3);
        due.refused("below 0", judge.copy(0, 0, 1, 0, -1), 1);
        due.refused("below 0", judge.copy(0, 0, 1, 0, Integer.MIN_VALUE), 1);
        due.refused("MISSING", judge.copy(2, 0, 1, 0, 1), 2);
        due.refused("MISSING", judge.copy(1, 0, 2, 0, 1), 2);
        due.refused("MISSING ahead of a place", judge.copy(1, 99, 2, 0, 1), 2);
        due.refused("below 0 ahead of MISSING", judge.copy(2, 0, 1, 0, -1), 1);
        for (int below : new int[] {-1, -6, Integer.MIN_VALUE}) {
            due.refused("from a place below 0", judge.copy(0, below, 1, 0, 1), 1);
            due.refused("to a place below 0", judge.copy(0, 0, 1, below, 1), 1);
            due.refused("none from a place below 0", judge.copy(0, below, 1, 0, 0), 1);
            due.refused("none to a place below 0", judge.copy(0, 0, 1, below, 0), 1);
            due.refused("from below 0 ahead of MISSING", judge.copy(0, below, 2, 0, 1), 1);
            due.refused("to below 0 ahead of MISSING", judge.copy(2, 0, 1, below, 1), 1);
            due.refused("from below 0 ahead of a place beyond", judge.copy(0, below, 1, 99, 1), 1);
            due.refused("to below 0 ahead of a place beyond", judge.copy(0, 99, 1, below, 1), 1);
        }
        for (int beyond : BEYOND) {
            due.refused("from " + beyond, judge.copy(beyond, 0, 2, 0, 1), 1);
            due.refused("to " + beyond, judge.copy(2, 0, beyond, 0, 1), 1);
        }
        it.row(1, 45, 46, 47, 0);
        it.row(0, 301, 302, 303, 302, 47);
        // A whole SHEET, beside one with greater numbers: those stay.
        for (int sheet = 0; sheet < 4; sheet++) {
            judge.sheet(sheet, sheet == 3 ? 0 : sheet, 16);
            judge.write(sheet, 0, 100000);
        }
        for (int to = 0; to < 4; to++) {
            due.fine("copy of all", judge.copy(2, 0, to, 0, 16));
        }
        it.row(0, (byte) 100000, 0);
        it.row(1, (short) 100000, 0);
        it.row(2, 100000, 0);
        it.row(3, (byte) 100000, 0);
        return due;
    }

    private static Due dropAndNone() {
        Bench it = new Bench("promises 9 and 10");
        Due due = it.due;
        ReadAge judge = it.judge;
        for (int beyond : BEYOND) {
            due.refused("drop " + beyond, judge.drop(beyond), 1);
        }
        due.refused("drop MISSING", judge.drop(2), 2);
        judge.sheet(2, 0, 1);
        judge.sheet(1, 0, 1);
        due.fine("drop", judge.drop(2));
        due.refused("read", judge.read(2, 0), -1, 2);
        due.refused("drop MISSING", judge.drop(2), 2);
        due.fine("the other one", judge.read(1, 0), 0);
        due.fine("anew", judge.sheet(2, 0, 1));
        due.fine("read", judge.read(2, 0), 0);
        due.refused("none", judge.none(), 10);
        due.refused("none", judge.none(), 10);
        due.fine("read", judge.read(2, 0), 0);
        return due;
    }

    public static void main(String[] args) {
        Due.end(fresh(), sheet(), writeAndRead(), copy(), dropAndNone());
    }
}
