/** The term STATUS: each of its sentences, and that a refused call changes nothing else, method by method. */
public final class StatusTest {
    private static final int MIN = Integer.MIN_VALUE;
    private static final int MAX = Integer.MAX_VALUE;

    private interface Calls {
        void on(Bench it);
    }

    // ---- each STATUS

    private static Due eachStatus() {
        Bench it = new Bench("STATUS: 0 to 10, each by a call");
        it.due.fine("0", it.judge.gap(1));
        it.due.refused("1", it.judge.gap(-1), 1);
        it.due.refused("2", it.judge.drop(0), 2);
        it.sheet(0, 0, 0);
        it.due.refused("3", it.judge.read(0, 1), -1, 3);
        it.due.refused("4", it.judge.go(1), 4);
        it.run(1, 1, 1);
        it.due.refused("5", it.judge.up(0), 5);
        it.delays(0, 0, 0);
        for (int read = 0; read < 40; read++) {
            it.due.fine("reads", it.judge.reads(0, 0), read);
        }
        it.due.refused("6", it.judge.reads(0, 0), 6);
        it.write(1, 5, 5);
        it.due.refused("7", it.judge.done(1), 7);
        for (int table = 0; table < 4; table++) {
            it.table(table, 8);
        }
        it.due.fine("numbers", it.judge.numbers(5, 1, 1));
        it.due.refused("9", it.judge.odds(0, 1, 0), 9);
        it.due.refused("10", it.judge.none(), 10);
        it.due.fine("0 once more", it.judge.gap(0));
        return it.due;
    }

    private static Due copiesWithoutRun() {
        Bench it = new Bench("STATUS: without a RUN a COPY 0 to 4 is none of 1: 4, whatever N is");
        it.due.fine("numbers", it.judge.numbers(1, 1, 1));
        for (int copy = 0; copy <= 4; copy++) {
            it.due.refused("down " + copy, it.judge.down(copy, false), 4);
            it.due.refused("up " + copy, it.judge.up(copy), 4);
            it.due.refused("of " + copy, it.judge.of(copy, 2), 4);
            it.due.refused("sweep", it.judge.sweep(copy, (copy + 1) % 5), 4);
        }
        for (int beyond : new int[] {-1, 5, MIN, MAX}) {
            it.due.refused("down " + beyond, it.judge.down(beyond, false), 1);
            it.due.refused("up " + beyond, it.judge.up(beyond), 1);
            it.due.refused("of " + beyond, it.judge.of(beyond, 0), 1);
            it.due.refused("sweep", it.judge.sweep(beyond, 0), 1);
            it.due.refused("sweep", it.judge.sweep(0, beyond), 1);
        }
        return it.due;
    }

    private static Due writesWithoutRun() {
        Bench it = new Bench("STATUS: without a RUN a WRITE 1 to 40 is none of 1: 4");
        for (int write : new int[] {1, 2, 39, 40}) {
            it.due.refused("done " + write, it.judge.done(write), 4);
        }
        for (int beyond : new int[] {0, -1, 41, MIN, MAX}) {
            it.due.refused("done " + beyond, it.judge.done(beyond), 1);
        }
        return it.due;
    }

    private static Due readsWithoutRun() {
        Bench it = new Bench("STATUS: without a RUN a READ 0 to 39 is none of 1: 4");
        for (int read : new int[] {0, 1, 38, 39}) {
            it.due.refused("got " + read, it.judge.got(read, 2), 4);
        }
        for (int beyond : new int[] {-1, 40, MIN, MAX}) {
            it.due.refused("got " + beyond, it.judge.got(beyond, 2), 1);
        }
        return it.due;
    }

    private static Due othersWithoutRun() {
        Bench it = new Bench("STATUS: 1 ahead of 4: READERS, ticks, a what");
        it.due.refused("mending", it.judge.mending(false), 4);
        it.due.refused("keep(3, ..)", it.judge.keep(3, false), 4);
        it.due.refused("keep(4, ..)", it.judge.keep(4, false), 1);
        it.due.refused("go(10000)", it.judge.go(10000), 4);
        it.due.refused("go(10001)", it.judge.go(10001), 1);
        it.due.refused("of(0, 3)", it.judge.of(0, 3), 1);
        it.due.refused("got(0, 3)", it.judge.got(0, 3), 1);
        it.due.refused("tell(6)", it.judge.tell(6), 4);
        it.due.refused("tell(7)", it.judge.tell(7), 1);
        it.due.refused("reads(0, 3)", it.judge.reads(0, 3), 4);
        it.due.refused("reads(0, 4)", it.judge.reads(0, 4), 1);
        it.due.fine("begin", it.judge.begin());
        it.due.fine("mending", it.judge.mending(false));
        return it.due;
    }

    // ---- a refused call changes nothing else

    /** An object with something of all that there is: SHEET 2 MISSING, COPY 2 DOWN, LETTERS under way. */
    private static Bench full(String what) {
        Bench it = new Bench("STATUS: a refused call changes nothing else: " + what);
        it.table(0, 1, 1);
        it.table(2, 1, 0, 1);
        it.due.fine("gap", it.judge.gap(0));
        it.run(3, 1, 2);
        it.due.fine("mending", it.judge.mending(true));
        it.due.fine("keep", it.judge.keep(1, true));
        it.due.fine("down", it.judge.down(2, false));
        it.write(1, 0, 9, 0, 0, 0, 0);
        it.read(0, 1, 0, 0, 0, 0, 0, 0);
        it.write(2, 7, 8, 0, 3, 0, 0);
        it.read(1, 1, 2, 9, 0, 0, 1, 0);
        it.sheet(3, 1, 5, 1001, -1);
        it.due.fine("numbers", it.judge.numbers(2, 1, 1));
        it.due.fraction("odds(0, 1, 0)", it.judge.odds(0, 1, 0), 3, 16);
        return it;
    }

    /** Asks two objects alike for all that they can tell, now and later on. */
    private static void same(Bench it, Bench twin) {
        ReadAge a = it.judge;
        ReadAge b = twin.judge;
        it.due.is("top()", a.top(), b.top());
        it.due.is("bottom()", a.bottom(), b.bottom());
        for (int sheet = 0; sheet < 4; sheet++) {
            for (int place = 0; place < 7; place++) {
                it.due.is("read " + sheet + " " + place, a.read(sheet, place), b.read(sheet, place));
                it.due.is("its status()", a.status(), b.status());
            }
        }
        sameRun(it, twin);
        it.due.is("go 1", a.go(1), b.go(1));
        sameRun(it, twin);
        it.due.is("up 2", a.up(2), b.up(2));
        it.due.is("go 20", a.go(20), b.go(20));
        sameRun(it, twin);
        for (int tick = 0; tick < 3; tick++) {
            it.due.is("takes(true, ..)", a.takes(true, tick), b.takes(true, tick));
            it.due.is("top()", a.top(), b.top());
            it.due.is("takes(false, ..)", a.takes(false, tick), b.takes(false, tick));
            it.due.is("bottom()", a.bottom(), b.bottom());
        }
        it.due.is("odds(0, 2, 2)", a.odds(0, 2, 2), b.odds(0, 2, 2));
        it.due.is("top()", a.top(), b.top());
        it.due.is("bottom()", a.bottom(), b.bottom());
        it.due.is("begin", a.begin(), b.begin());
        for (int copy = 0; copy < 5; copy++) {
            it.due.is("of " + copy, a.of(copy, 1), b.of(copy, 1));
        }
    }

    private static void sameRun(Bench it, Bench twin) {
        for (int what = 0; what < 7; what++) {
            it.due.is("tell " + what, it.judge.tell(what), twin.judge.tell(what));
        }
        for (int what = 0; what < 3; what++) {
            for (int number = 0; number < 3; number++) {
                it.due.is("of " + number, it.judge.of(number, what), twin.judge.of(number, what));
                it.due.is("got " + number, it.judge.got(number, what), twin.judge.got(number, what));
            }
            it.due.is("done " + (what + 1), it.judge.done(what + 1), twin.judge.done(what + 1));
        }
    }

    private static Due changesNothing(String what, Calls refused) {
        Bench it = full(what);
        Bench twin = full(what);
        refused.on(it);
        same(it, twin);
        it.due.is("its twin's wrong answers", twin.due.wrong(), 0);
        return it.due;
    }

    private static Due sheetChangesNothing() {
        return changesNothing("sheet", it -> {
            it.due.refused("-1", it.judge.sheet(-1, 0, 1), 1);
            it.due.refused("4", it.judge.sheet(4, 0, 1), 1);
            it.due.refused("sort", it.judge.sheet(0, 4, 1), 1);
            it.due.refused("many", it.judge.sheet(1, 0, 17), 1);
            it.due.refused("many", it.judge.sheet(2, 0, -1), 1);
        });
    }

    private static Due writeChangesNothing() {
        return changesNothing("write", it -> {
            it.due.refused("-1", it.judge.write(-1, 0, 7), 1);
            it.due.refused("4", it.judge.write(4, 0, 7), 1);
            it.due.refused("MISSING", it.judge.write(2, 0, 7), 2);
            it.due.refused("behind the last", it.judge.write(0, 6, 7), 3);
            it.due.refused("ahead of the first", it.judge.write(1, -1, 7), 3);
        });
    }

    private static Due readChangesNothing() {
        return changesNothing("read", it -> {
            it.due.refused("4", it.judge.read(4, 0), -1, 1);
            it.due.refused("MISSING", it.judge.read(2, 0), -1, 2);
            it.due.refused("behind the last", it.judge.read(0, 6), -1, 3);
        });
    }

    private static Due copyChangesNothing() {
        return changesNothing("copy", it -> {
            it.due.refused("below 0", it.judge.copy(0, 0, 1, 0, -1), 1);
            it.due.refused("below 0", it.judge.copy(0, -1, 1, 0, 1), 1);
            it.due.refused("below 0", it.judge.copy(0, 0, 1, -1, 1), 1);
            it.due.refused("to a MISSING one", it.judge.copy(0, 0, 2, 0, 1), 2);
            it.due.refused("too few", it.judge.copy(0, 0, 3, 0, 4), 3);
            it.due.refused("too few", it.judge.copy(0, 4, 1, 0, 3), 3);
        });
    }

    private static Due dropAndNoneChangeNothing() {
        return changesNothing("drop, none", it -> {
            it.due.refused("-1", it.judge.drop(-1), 1);
            it.due.refused("4", it.judge.drop(4), 1);
            it.due.refused("MISSING", it.judge.drop(2), 2);
            it.due.refused("none", it.judge.none(), 10);
        });
    }

    private static Due numbersAndGapChangeNothing() {
        return changesNothing("numbers, gap", it -> {
            it.due.refused("N", it.judge.numbers(6, 1, 1), 1);
            it.due.refused("w", it.judge.numbers(4, 5, 1), 1);
            it.due.refused("r", it.judge.numbers(4, 1, 5), 1);
            it.due.refused("gap", it.judge.gap(101), 1);
            it.due.refused("gap", it.judge.gap(-1), 1);
        });
    }

    private static Due tableChangesNothing() {
        return changesNothing("table", it -> {
            it.due.refused("4", it.judge.table(4, 0, 1), 1);
            it.due.refused("MISSING", it.judge.table(0, 2, 1), 2);
            it.due.refused("too few", it.judge.table(0, 3, 4), 3);
            it.due.refused("too great", it.judge.table(0, 3, 2), 1);
            it.due.refused("below 0", it.judge.table(2, 3, 3), 1);
        });
    }

    private static Due chancesChangeNothing() {
        return changesNothing("takes, odds, choose", it -> {
            it.due.refused("takes", it.judge.takes(true, 15), 1);
            it.due.refused("takes", it.judge.takes(false, -1), 1);
            it.due.refused("odds", it.judge.odds(0, 0, 1), 1);
            it.due.refused("odds", it.judge.odds(101, 0, 0), 1);
            it.due.refused("choose", it.judge.choose(6, 0, 0, 0, 0, 1, 0, 0, 0), 1);
            it.due.refused("choose", it.judge.choose(5, 0, 0, 0, 2, 1, 0, 0, 0), 1);
        });
    }

    private static Due keepChangesNothing() {
        return changesNothing("keep", it -> {
            it.due.refused("-1", it.judge.keep(-1, false), 1);
            it.due.refused("4", it.judge.keep(4, false), 1);
        });
    }

    private static Due actsChangeNothing() {
        return changesNothing("writes, reads", it -> {
            it.due.refused("1", it.judge.writes(4), 1);
            it.due.refused("1", it.judge.reads(0, 4), 1);
            it.due.refused("2", it.judge.writes(2), 2);
            it.due.refused("2", it.judge.reads(2, 1), 2);
            it.due.refused("3", it.judge.writes(3), 3);
            it.due.refused("3", it.judge.reads(3, 1), 3);
        });
    }

    private static Due delaysChangeNothing() {
        Bench it = full("writes, reads, by their last delay");
        Bench twin = full("writes, reads, by their last delay");
        for (Bench bench : new Bench[] {it, twin}) {
            bench.delays(2, 0, 0, 0, 0, 0, 1001);
        }
        it.due.refused("writes", it.judge.writes(2), 1);
        it.due.refused("reads", it.judge.reads(2, 1), 1);
        same(it, twin);
        return it.due;
    }

    private static Due goChangesNothing() {
        return changesNothing("go", it -> {
            it.due.refused("-1", it.judge.go(-1), 1);
            it.due.refused("10001", it.judge.go(10001), 1);
        });
    }

    private static Due downAndUpChangeNothing() {
        return changesNothing("down, up", it -> {
            it.due.refused("down 3", it.judge.down(3, true), 1);
            it.due.refused("down -1", it.judge.down(-1, true), 1);
            it.due.refused("down a DOWN one", it.judge.down(2, true), 5);
            it.due.refused("up 3", it.judge.up(3), 1);
            it.due.refused("up an UP one", it.judge.up(0), 5);
            it.due.refused("up an UP one", it.judge.up(1), 5);
        });
    }

    private static Due sweepChangesNothing() {
        return changesNothing("sweep", it -> {
            it.due.refused("like ones", it.judge.sweep(0, 0), 1);
            it.due.refused("no such one", it.judge.sweep(0, 3), 1);
            it.due.refused("not UP", it.judge.sweep(0, 2), 5);
            it.due.refused("not UP", it.judge.sweep(2, 1), 5);
        });
    }

    private static Due looksChangeNothing() {
        return changesNothing("of, done, got, tell", it -> {
            it.due.refused("of", it.judge.of(3, 0), 1);
            it.due.refused("done", it.judge.done(3), 1);
            it.due.refused("done", it.judge.done(2), 7);
            it.due.refused("got", it.judge.got(2, 0), 1);
            it.due.refused("got", it.judge.got(1, 0), 7);
            it.due.refused("tell", it.judge.tell(7), 1);
        });
    }

    /** Calls of a RUN ahead of all RUNS: the one that then begins knows nothing of them. */
    private static Due nothingAheadOfARun() {
        Bench it = new Bench("STATUS 4: there is no RUN, and the call changes nothing");
        it.delays(0, 0, 0, 0, 0, 0, 0);
        it.due.refused("mending", it.judge.mending(true), 4);
        it.due.refused("keep", it.judge.keep(0, true), 4);
        it.due.refused("writes", it.judge.writes(0), 4);
        it.due.refused("reads", it.judge.reads(0, 0), 4);
        it.due.refused("go", it.judge.go(5), 4);
        it.due.refused("down", it.judge.down(0, true), 4);
        it.due.fine("begin", it.judge.begin());
        it.tells(0, 0, 0, 0, 0, 0, 0);
        it.ups(1, 1, 1);
        it.write(1, 0, 9, 9, 0, 0, 0);
        it.read(0, 0, 0, 0, 9, 0, 0, 0);
        it.tells(0, 1, 1, 3, 0, 0, 0);
        it.read(1, 0, 9, 0, 0, 0, 0, 0);
        it.got(1, 0, 0, 0);
        it.due.fine("tell(5)", it.judge.tell(5), 0);
        return it.due;
    }

    public static void main(String[] args) {
        Due.end(eachStatus(), copiesWithoutRun(), writesWithoutRun(), readsWithoutRun(), othersWithoutRun(),
                sheetChangesNothing(), writeChangesNothing(), readChangesNothing(), copyChangesNothing(),
                dropAndNoneChangeNothing(), numbersAndGapChangeNothing(), tableChangesNothing(),
                chancesChangeNothing(), keepChangesNothing(), actsChangeNothing(), delaysChangeNothing(),
                goChangesNothing(), downAndUpChangeNothing(), sweepChangesNothing(), looksChangeNothing(),
                nothingAheadOfARun());
    }
}
