/** Each sentence of the term A RUN and of promises 17 to 29 that names an edge or a refusal, by itself. */
public final class RunEdgesTest {
    private static final int MIN = Integer.MIN_VALUE;
    private static final int MAX = Integer.MAX_VALUE;

    // ---- promise 17: begin

    private static Due asItBegins() {
        Bench it = new Bench("A RUN: Tick 0, all UP, VERSION 0, no HANDED ones").run(5, 3, 3);
        it.tells(0, 0, 0, 0, 0, 0, 0);
        it.ups(1, 1, 1, 1, 1);
        it.versions(0, 0, 0, 0, 0);
        it.kept(0, 0, 0, 0, 0);
        return it.due;
    }

    private static Due numbersAtItsBeginning() {
        Bench it = new Bench("A RUN has N COPIES as they are at its beginning, w and r too").run(2, 1, 1);
        it.due.fine("numbers", it.judge.numbers(5, 5, 5));
        it.versions(0, 0);
        it.due.refused("a third COPY", it.judge.of(2, 0), 1);
        it.write(1, 0, 9, 0, 0);
        it.due.fine("by one word", it.judge.done(1), 0);
        it.read(0, 0, 0, 9, 0, 0);
        it.got(0, 0, 1, 0);
        return it.due;
    }

    private static Due beginAnew() {
        Bench it = new Bench("17: A RUN anew: nothing of the one before").run(2, 1, 1);
        it.due.fine("mending", it.judge.mending(true));
        it.due.fine("keep", it.judge.keep(0, true));
        it.write(1, 0, 9, 0, 0);
        it.read(0, 0, 0, 9, 0, 0);
        it.due.fine("down", it.judge.down(1, true));
        it.write(2, 5, 0, 0, 0);
        it.go(3, 3);
        it.tells(3, 2, 1, 3, 0, 0, 0);
        it.due.fine("begin", it.judge.begin());
        it.tells(0, 0, 0, 0, 0, 0, 0);
        it.ups(1, 1);
        it.kept(0, 0);
        it.due.refused("done(1)", it.judge.done(1), 1);
        it.due.refused("got(0, 0)", it.judge.got(0, 0), 1);
        it.go(10, 10);
        it.versions(0, 0);
        return it.due;
    }

    private static Due countsAnew() {
        Bench it = new Bench("17: A RUN anew: what is counted begins with 0").run(2, 1, 1);
        it.due.fine("keep", it.judge.keep(0, true));
        it.write(1, 0, 90, 0, 0);
        it.go(1, 1);
        it.read(0, 0, 0, 9, 0, 0);
        it.read(1, 0, 9, 0, 0, 0);
        it.due.fine("down", it.judge.down(0, false));
        it.due.fine("down", it.judge.down(1, false));
        it.write(2, 0, 0, 0, 0);
        it.tells(1, 2, 2, 3, 2, 1, 1);
        it.due.fine("begin", it.judge.begin());
        it.tells(0, 0, 0, 0, 0, 0, 0);
        // A first WRITE and a first READ have heard nothing of those that bore their numbers.
        it.write(1, 90, 0, 0, 5);
        it.due.refused("done(1)", it.judge.done(1), 7);
        it.read(0, 0, 0, 9, 0, 0);
        it.got(0, 0, 0, 0);
        it.due.fine("keep", it.judge.keep(0, true));
        it.read(1, 0, 0, 9, 0, 0);
        it.got(1, 0, 0, 0);
        it.tells(0, 1, 2, 4, 0, 0, 0);
        return it.due;
    }

    private static Due readersAnew() {
        Bench it = new Bench("17: A RUN anew: READERS have read nothing, and none is KEPT").run(2, 1, 1);
        for (int reader = 0; reader < 4; reader++) {
            it.due.fine("keep", it.judge.keep(reader, true));
        }
        it.write(1, 0, 0, 0, 0);
        it.delays(1, 0, 0, 0, 0);
        for (int reader = 0; reader < 4; reader++) {
            it.due.fine("reads", it.judge.reads(1, reader), reader);
        }
        it.due.fine("begin", it.judge.begin());
        it.due.fine("keep", it.judge.keep(0, true));
        it.due.fine("keep", it.judge.keep(3, true));
        for (int reader = 0; reader < 4; reader++) {
            it.due.fine("reads", it.judge.reads(1, reader), reader);
            it.got(reader, 0, 0, 0);
        }
        it.write(1, 0, 90, 0, 0);
        it.delays(2, 9, 0, 0, 0);
        it.due.fine("READER 1 reads the newer one", it.judge.reads(1, 1), 4);
        it.due.fine("and the older one", it.judge.reads(2, 1), 5);
        it.got(5, 0, 0, 0);
        it.due.fine("tell(5)", it.judge.tell(5), 0);
        return it.due;
    }

    private static Due answersAnew() {
        Bench it = new Bench("17: A RUN anew: no answer of the one before is heard").run(2, 1, 2);
        it.write(1, 0, 0, 0, 0);
        it.read(0, 0, 0, 0, 9, 0);
        it.due.fine("begin", it.judge.begin());
        it.due.fine("mending", it.judge.mending(true));
        it.read(0, 0, 0, 0, 0, 9);
        it.due.refused("one answer", it.judge.got(0, 0), 7);
        it.go(9, 9);
        it.got(0, 9, 0, 0);
        it.tells(9, 0, 1, 0);
        // Of an older READ 0 both COPIES were heard; of this one COPY 1 alone is.
        it.run(2, 1, 1);
        it.due.fine("mending", it.judge.mending(true));
        it.write(1, 90, 0, 0, 0);
        it.read(0, 0, 9, 0, 0, 0);
        it.tells(0, 1, 1, 2);
        return it.due;
    }

    private static Due roomAnew() {
        Bench it = new Bench("17: A RUN anew has room for all its LETTERS");
        it.due.fine("numbers", it.judge.numbers(5, 5, 5));
        it.delays(0, 0, 0, 0, 0, 0, 9, 9, 9, 9, 9);
        for (int run = 0; run < 4; run++) {
            it.due.is("begin", it.judge.begin(), true);
            for (int act = 0; act < 40; act++) {
                it.judge.writes(0);
            }
            it.due.fine("go 9", it.judge.go(9), 9);
            it.tells(9, 40, 0, 0);
            it.due.fine("done(40)", it.judge.done(40), 9);
            it.versions(40, 40, 40, 40, 40);
        }
        return it.due;
    }

    private static Due sheetsAndChancesStay() {
        Bench it = new Bench("17: begin() leaves SHEETS, TABLES and the FRACTION");
        it.table(0, 1, 1);
        it.sheet(0, 0, 5);
        it.due.fine("numbers", it.judge.numbers(1, 1, 1));
        it.due.fraction("takes(true, 0)", it.judge.takes(true, 0), 1, 2);
        it.due.fine("begin", it.judge.begin());
        it.due.is("top()", it.judge.top(), 1);
        it.due.is("bottom()", it.judge.bottom(), 2);
        it.row(0, 5);
        it.due.fraction("takes(true, 1)", it.judge.takes(true, 1), 1, 2);
        return it.due;
    }

    // ---- promise 18: mending

    private static Due mendingOffAtFirst() {
        Bench it = new Bench("A RUN: MENDING (off at first)").run(2, 1, 2);
        it.write(1, 0, 90, 0, 0);
        it.read(0, 0, 0, 0, 0, 0);
        it.go(5, 5);
        it.versions(1, 0);
        it.due.fine("on", it.judge.mending(true));
        it.due.fine("begin", it.judge.begin());
        it.write(1, 0, 90, 0, 0);
        it.read(0, 0, 0, 0, 0, 0);
        it.go(5, 5);
        it.versions(1, 0);
        return it.due;
    }

    private static Due mendedOneTickLater() {
        Bench it = new Bench("A RUN: a LETTER goes that comes 1 tick later, without a word back").run(2, 2, 2);
        it.due.fine("on", it.judge.mending(true));
        it.write(1, 0, 90, 0, 0);
        it.read(0, 0, 0, 0, 0, 0);
        it.got(0, 0, 1, 0);
        it.tells(0, 1, 1, 2);
        it.versions(1, 0);
        it.due.fine("go(0)", it.judge.go(0), 0);
        it.versions(1, 0);
        it.go(1, 1);
        it.versions(1, 1);
        it.tells(1, 1, 1, 1);
        it.due.refused("done(1)", it.judge.done(1), 7);
        return it.due;
    }

    private static Due onlyThoseThatAnswered() {
        Bench it = new Bench("A RUN: to each COPY of those r that answered with a lesser VERSION").run(4, 1, 3);
        it.due.fine("on", it.judge.mending(true));
        it.write(1, 0, 90, 0, 90, 0, 0, 0, 0);
        // COPIES 0, 1, 2 are the first three; 1 alone answered with less, and 3 is not looked at.
        it.read(0, 0, 0, 0, 0, 0, 0, 0, 0, 0);
        it.tells(0, 1, 1, 3);
        it.go(1, 1);
        it.versions(1, 1, 1, 0);
        return it.due;
    }

    private static Due firstAndLastAreMended() {
        Bench it = new Bench("A RUN: MENDING: the first COPY and the last, too").run(5, 1, 5);
        it.due.fine("on", it.judge.mending(true));
        it.write(1, 90, 0, 0, 0, 90, 0, 0, 0, 0, 0);
        it.read(0, 0, 0, 0, 0, 0, 0, 0, 0, 0, 0, 0);
        it.tells(0, 1, 1, 4);
        it.go(1, 1);
        it.versions(1, 1, 1, 1, 1);
        return it.due;
    }

    private static Due nothingToMend() {
        Bench it = new Bench("A RUN: like VERSIONS are not lesser: no LETTER goes").run(3, 1, 3);
        it.due.fine("on", it.judge.mending(true));
        it.read(0, 0, 0, 0, 0, 0, 0, 0);
        it.write(1, 0, 0, 0, 0, 0, 0);
        it.read(1, 0, 0, 0, 0, 0, 0, 0);
        it.tells(0, 1, 2, 0);
        return it.due;
    }

    private static Due mendingLost() {
        Bench it = new Bench("A RUN: a mending LETTER does as a WRITE's: kept by another one, or LOST").run(2, 1, 2);
        it.due.fine("on", it.judge.mending(true));
        it.write(1, 0, 90, 0, 0);
        it.read(0, 0, 0, 0, 0, 0);
        it.due.fine("down", it.judge.down(1, false));
        it.go(1, 1);
        it.kept(1, 0);
        it.read(1, 0, 0, 0, 0, 0);
        it.due.fine("up", it.judge.up(1), 1);
        it.due.fine("down, LOSING", it.judge.down(1, true));
        it.due.fine("up", it.judge.up(1), 0);
        it.read(2, 0, 0, 0, 0, 0);
        it.due.fine("down", it.judge.down(0, false));
        it.due.fine("down", it.judge.down(1, false));
        it.go(1, 2);
        it.tells(2, 1, 3, 1, 1);
        return it.due;
    }

    private static Due mendingKeepsTheGreater() {
        Bench it = new Bench("A RUN: a mending LETTER: the greater VERSION stays").run(2, 1, 2);
        it.due.fine("on", it.judge.mending(true));
        it.write(1, 0, 90, 0, 0);
        it.read(0, 0, 0, 0, 0, 0);
        it.write(2, 90, 0, 0, 0);
        it.go(1, 1);
        it.versions(1, 2);
        return it.due;
    }

    // ---- promise 19: keep

    private static Due readersBeyond() {
        Bench it = new Bench("A RUN: READERS 0 to 3").run(1, 1, 1);
        for (int beyond : new int[] {-1, 4, MIN, MAX}) {
            it.due.refused("keep " + beyond, it.judge.keep(beyond, true), 1);
        }
        for (int reader = 0; reader < 4; reader++) {
            it.due.fine("keep " + reader, it.judge.keep(reader, true));
            it.due.fine("no more", it.judge.keep(reader, false));
        }
        return it.due;
    }

    /** COPY 0 has WRITE 1, COPY 1 nothing; a READ asks the one, another READ the other. */
    private static Bench newerAndOlder(String what) {
        Bench it = new Bench(what).run(2, 1, 1);
        it.write(1, 0, 90, 0, 0);
        it.delays(2, 0, 9, 0, 0);
        it.delays(3, 9, 0, 0, 0);
        return it;
    }

    private static Due keptOffAtFirst() {
        Bench it = newerAndOlder("A RUN: KEPT ones (off at first for each)");
        for (int reader = 0; reader < 4; reader++) {
            it.due.fine("reads", it.judge.reads(2, reader), 2 * reader);
            it.due.fine("reads", it.judge.reads(3, reader), 2 * reader + 1);
            it.got(2 * reader + 1, 0, 0, 0);
        }
        it.due.fine("tell(5)", it.judge.tell(5), 0);
        return it.due;
    }

    private static Due raise() {
        Bench it = newerAndOlder("A RUN: a READ that would be DONE with a lesser VERSION: a RAISE");
        it.due.fine("keep", it.judge.keep(0, true));
        it.due.fine("reads", it.judge.reads(3, 0), 0);
        it.due.fine("nothing seen yet", it.judge.got(0, 1), 0);
        it.due.fine("reads", it.judge.reads(2, 0), 1);
        it.due.fine("reads", it.judge.reads(2, 0), 2);
        it.due.fine("a like one is none", it.judge.tell(5), 0);
        it.due.fine("reads", it.judge.reads(3, 0), 3);
        it.due.fine("got(3, 1)", it.judge.got(3, 1), 1);
        it.due.fine("tell(5)", it.judge.tell(5), 1);
        return it.due;
    }

    private static Due otherReaders() {
        Bench it = newerAndOlder("A RUN: a READ of its own alone is raised, to what it has read itself");
        it.due.fine("keep", it.judge.keep(0, true));
        it.due.fine("keep", it.judge.keep(1, true));
        it.due.fine("reads", it.judge.reads(2, 0), 0);
        it.due.fine("reads", it.judge.reads(3, 1), 1);
        it.due.fine("READER 1 has seen nothing", it.judge.got(1, 1), 0);
        it.due.fine("tell(5)", it.judge.tell(5), 0);
        return it.due;
    }

    private static Due keptNoMore() {
        Bench it = newerAndOlder("19: KEPT, or no more; what it has counts all its READS");
        it.due.fine("reads", it.judge.reads(2, 0), 0);
        it.due.fine("keep", it.judge.keep(0, true));
        it.due.fine("reads", it.judge.reads(3, 0), 1);
        it.due.fine("raised to a READ ahead of keep()", it.judge.got(1, 1), 1);
        it.due.fine("no more", it.judge.keep(0, false));
        it.due.fine("reads", it.judge.reads(3, 0), 2);
        it.due.fine("not raised", it.judge.got(2, 1), 0);
        it.due.fine("tell(5)", it.judge.tell(5), 1);
        return it.due;
    }

    private static Due raiseHidesNoMiss() {
        Bench it = newerAndOlder("28: greater than the greatest VERSION of its r answers, raised or not");
        it.due.fine("keep", it.judge.keep(0, true));
        it.due.fine("reads", it.judge.reads(2, 0), 0);
        it.go(1, 1);
        it.due.fine("reads", it.judge.reads(3, 0), 1);
        it.got(1, 1, 1, 1);
        it.tells(1, 1, 2, 3, 0, 1, 1);
        return it.due;
    }

    // ---- promises 20 and 21: writes, reads

    private static Due actsOfNoSheet() {
        Bench it = new Bench("20 and 21: 1 no such SHEET, no such READER").run(1, 1, 1);
        it.delays(0, 0, 0);
        for (int beyond : new int[] {-1, 4, MIN, MAX}) {
            it.due.refused("writes " + beyond, it.judge.writes(beyond), 1);
            it.due.refused("reads " + beyond, it.judge.reads(beyond, 0), 1);
            it.due.refused("reader " + beyond, it.judge.reads(0, beyond), 1);
        }
        it.tells(0, 0, 0, 0);
        return it.due;
    }

    private static Due actsOfMissing() {
        Bench it = new Bench("20 and 21: 2 a MISSING SHEET").run(1, 1, 1);
        it.due.refused("writes", it.judge.writes(3), 2);
        it.due.refused("reads", it.judge.reads(3, 3), 2);
        it.tells(0, 0, 0, 0);
        return it.due;
    }

    private static Due actsOfTooFew() {
        Bench it = new Bench("20 and 21: 3 too few numbers, a SHEET of none too").run(5, 1, 1);
        for (int many : new int[] {0, 5, 9}) {
            it.due.fine("sheet", it.judge.sheet(0, 0, many));
            it.due.refused("writes of " + many, it.judge.writes(0), 3);
            it.due.refused("reads of " + many, it.judge.reads(0, 0), 3);
        }
        it.due.fine("sheet", it.judge.sheet(0, 0, 10));
        it.due.fine("writes of 10", it.judge.writes(0), 1);
        it.due.fine("reads of 10", it.judge.reads(0, 0), 0);
        return it.due;
    }

    private static Due delaysBeyond() {
        Bench it = new Bench("A RUN: delays, each 0 to 1,000: above, below, at each place").run(2, 1, 1);
        for (int place = 0; place < 4; place++) {
            for (long beyond : new long[] {-1, 1001, 1L << 32, Long.MIN_VALUE, Long.MAX_VALUE}) {
                it.due.fine("sheet", it.judge.sheet(0, 3, 4));
                it.due.fine("write", it.judge.write(0, place, beyond));
                it.due.refused("writes", it.judge.writes(0), 1);
                it.due.refused("reads", it.judge.reads(0, 0), 1);
            }
        }
        it.tells(0, 0, 0, 0);
        return it.due;
    }

    private static Due greatestDelays() {
        Bench it = new Bench("A RUN: delays of 1,000").run(1, 1, 1);
        it.write(1, 1000, 1000);
        it.read(0, 0, 1000, 1000);
        it.go(999, 999);
        it.versions(0);
        it.go(1, 1000);
        it.versions(1);
        it.go(999, 1999);
        it.due.refused("done(1)", it.judge.done(1), 7);
        it.due.refused("got(0, 0)", it.judge.got(0, 0), 7);
        it.go(1, 2000);
        it.due.fine("done(1)", it.judge.done(1), 2000);
        it.got(0, 2000, 1, 0);
        return it.due;
    }

    private static Due numbersBehindTheDelays() {
        Bench it = new Bench("A RUN: the first N numbers, the next N; what is behind them may be anything").run(2, 2, 1);
        it.write(1, 1, 2, 3, 4, -1, 1001);
        it.go(5, 5);
        it.due.refused("done(1)", it.judge.done(1), 7);
        it.go(1, 6);
        it.due.fine("done(1): 2 and 4 ticks", it.judge.done(1), 6);
        return it.due;
    }

    private static Due delaysAsTheyWere() {
        Bench it = new Bench("20: a WRITE begins with delays as they are then").run(1, 1, 1);
        it.write(1, 3, 4);
        it.due.fine("write", it.judge.write(0, 1, 0));
        it.due.fine("drop", it.judge.drop(0));
        it.go(7, 7);
        it.due.fine("done(1)", it.judge.done(1), 7);
        return it.due;
    }

    private static Due fortyWrites() {
        Bench it = new Bench("STATUS 6: one too many (40 WRITES)").run(1, 1, 1);
        it.delays(0, 0, 0);
        for (int write = 1; write <= 40; write++) {
            it.due.fine("writes", it.judge.writes(0), write);
        }
        it.due.refused("the 41st", it.judge.writes(0), 6);
        it.tells(0, 40, 0, 0);
        it.versions(40);
        it.due.fine("done(40)", it.judge.done(40), 0);
        it.due.refused("done(41)", it.judge.done(41), 1);
        it.due.fine("a READ still may", it.judge.reads(0, 0), 0);
        it.due.fine("begin", it.judge.begin());
        it.due.fine("the first anew", it.judge.writes(0), 1);
        return it.due;
    }

    private static Due fortyReads() {
        Bench it = new Bench("STATUS 6: one too many (40 READS)").run(1, 1, 1);
        it.delays(0, 0, 0);
        for (int read = 0; read < 40; read++) {
            it.due.fine("reads", it.judge.reads(0, read % 4), read);
        }
        it.due.refused("the 41st", it.judge.reads(0, 0), 6);
        it.tells(0, 0, 40, 0);
        it.got(39, 0, 0, 0);
        it.due.refused("got(40, 0)", it.judge.got(40, 0), 1);
        it.due.fine("a WRITE still may", it.judge.writes(0), 1);
        return it.due;
    }

    private static Due actsInOrder() {
        Bench it = new Bench("20 and 21: asked as 1, 4, 2, 3, 1, 6");
        it.due.refused("1 ahead of 4", it.judge.writes(4), 1);
        it.due.refused("1 ahead of 4", it.judge.reads(0, 4), 1);
        it.due.refused("4 ahead of 2", it.judge.writes(0), 4);
        it.due.refused("4 ahead of 2", it.judge.reads(0, 0), 4);
        it.delays(0, 1001);
        it.due.refused("4 ahead of 3 and of a delay", it.judge.writes(0), 4);
        it.run(1, 1, 1);
        it.due.refused("1, a READER, ahead of 2", it.judge.reads(1, 4), 1);
        it.due.refused("3 ahead of a delay", it.judge.writes(0), 3);
        it.due.refused("3 ahead of a delay", it.judge.reads(0, 0), 3);
        it.delays(1, 0, 0);
        for (int act = 0; act < 40; act++) {
            it.due.fine("writes", it.judge.writes(1), act + 1);
            it.due.fine("reads", it.judge.reads(1, 0), act);
        }
        it.due.refused("2 ahead of 6", it.judge.writes(2), 2);
        it.due.refused("2 ahead of 6", it.judge.reads(2, 0), 2);
        it.due.refused("3 ahead of 6", it.judge.writes(0), 3);
        it.due.refused("3 ahead of 6", it.judge.reads(0, 0), 3);
        it.delays(0, 0, 1001);
        it.due.refused("a delay ahead of 6", it.judge.writes(0), 1);
        it.due.refused("a delay ahead of 6", it.judge.reads(0, 0), 1);
        it.due.refused("6", it.judge.writes(1), 6);
        it.due.refused("6", it.judge.reads(1, 0), 6);
        return it.due;
    }

    private static Due ofOneTick() {
        Bench it = new Bench("A RUN: LETTERS of one tick in the order in which they were sent").run(2, 1, 1);
        it.read(0, 0, 3, 9, 0, 0);
        it.write(1, 3, 9, 0, 0);
        it.read(1, 0, 3, 9, 0, 0);
        it.go(3, 3);
        it.due.fine("asked ahead of the WRITE", it.judge.got(0, 1), 0);
        it.due.fine("asked behind it", it.judge.got(1, 1), 1);
        return it.due;
    }

    private static Due ofOneActCopyByCopy() {
        Bench it = new Bench("A RUN: those of one act COPY by COPY").run(3, 1, 1);
        it.write(1, 9, 0, 9, 0, 0, 0);
        it.read(0, 0, 1, 1, 1, 0, 0, 0);
        it.go(1, 1);
        it.due.fine("COPY 0's answer is the first", it.judge.got(0, 1), 0);
        return it.due;
    }

    private static Due bySentNotByCopy() {
        Bench it = new Bench("A RUN: of one tick the answer that was sent first, that of a greater COPY too").run(2, 1, 1);
        it.write(1, 9, 0, 0, 0);
        it.read(0, 0, 2, 1, 0, 1);
        it.go(2, 2);
        it.got(0, 2, 1, 0);
        return it.due;
    }

    private static Due bySameAct() {
        Bench it = new Bench("A RUN: a delay of 0 comes at that tick, by the same act").run(2, 2, 2);
        it.write(1, 0, 0, 0, 0);
        it.due.fine("done(1)", it.judge.done(1), 0);
        it.read(0, 0, 0, 0, 0, 0);
        it.got(0, 0, 1, 0);
        it.tells(0, 1, 1, 0);
        it.write(2, 5, 5, 0, 0);
        it.go(5, 5);
        it.due.fine("as ticks go by, too", it.judge.done(2), 5);
        return it.due;
    }

    private static Due greaterOfItsOwn() {
        Bench it = new Bench("A RUN: an UP COPY has the greater VERSION of its own and that").run(1, 1, 1);
        it.write(1, 5, 0);
        it.write(2, 2, 0);
        it.go(2, 2);
        it.versions(2);
        it.go(3, 5);
        it.versions(2);
        it.due.fine("its word is sent all the same", it.judge.done(1), 5);
        return it.due;
    }

    private static Due wthWord() {
        Bench it = new Bench("A RUN: the WRITE is DONE with the w-th word, later ones change nothing").run(3, 2, 1);
        it.write(1, 0, 1, 2, 0, 0, 0);
        it.due.refused("one word", it.judge.done(1), 7);
        it.go(1, 1);
        it.due.fine("two words", it.judge.done(1), 1);
        it.go(1, 2);
        it.due.fine("three words", it.judge.done(1), 1);
        return it.due;
    }

    private static Due rthAnswer() {
        Bench it = new Bench("A RUN: the READ is DONE with the r-th answer; later ones are not looked at").run(3, 1, 2);
        it.write(1, 90, 90, 0, 0, 0, 0);
        it.read(0, 0, 0, 1, 2, 0, 0, 0);
        it.due.refused("one answer", it.judge.got(0, 0), 7);
        it.go(1, 1);
        it.got(0, 1, 0, 0);
        it.go(1, 2);
        it.got(0, 1, 0, 0);
        it.due.fine("and seen by its READER", it.judge.keep(0, true));
        it.read(1, 0, 0, 0, 9, 0, 0, 0);
        it.due.fine("nothing to be raised to", it.judge.tell(5), 0);
        return it.due;
    }

    private static Due answersWhatItHas() {
        Bench it = new Bench("A RUN: sends back the VERSION that it has as the READ's LETTER comes").run(1, 1, 1);
        it.read(0, 0, 0, 5);
        it.write(1, 0, 0);
        it.go(5, 5);
        it.got(0, 5, 0, 0);
        return it.due;
    }

    // ---- promise 22: go

    private static Due goBeyond() {
        Bench it = new Bench("22: so many ticks (0 to 10,000)").run(1, 1, 1);
        for (int beyond : new int[] {-1, 10001, MIN, MAX}) {
            it.due.refused("go " + beyond, it.judge.go(beyond), 1);
        }
        it.due.fine("tell(0)", it.judge.tell(0), 0);
        it.go(0, 0);
        it.go(10000, 10000);
        it.go(0, 10000);
        return it.due;
    }

    private static Due manyTicks() {
        Bench it = new Bench("22: as many ticks as 500 calls can let go by").run(1, 1, 1);
        int tick = 0;
        for (int call = 0; call < 240; call++) {
            it.judge.go(10000);
            tick += 10000;
            it.due.is("tell(0)", it.judge.tell(0), tick);
        }
        it.write(1, 1000, 1000);
        it.go(10000, tick + 10000);
        it.due.fine("done(1)", it.judge.done(1), tick + 2000);
        return it.due;
    }

    // ---- promises 23 and 24: down, up

    private static Due copiesBeyond() {
        Bench it = new Bench("23 to 26: 1 no such COPY: as many as the RUN has").run(2, 1, 1);
        it.due.fine("numbers", it.judge.numbers(5, 1, 1));
        for (int beyond : new int[] {-1, 2, 4, 5, MIN, MAX}) {
            it.due.refused("down " + beyond, it.judge.down(beyond, true), 1);
            it.due.refused("up " + beyond, it.judge.up(beyond), 1);
            it.due.refused("sweep 0 and " + beyond, it.judge.sweep(0, beyond), 1);
            it.due.refused("sweep " + beyond + " and 1", it.judge.sweep(beyond, 1), 1);
            it.due.refused("of " + beyond, it.judge.of(beyond, 0), 1);
        }
        it.ups(1, 1);
        return it.due;
    }

    private static Due downAlready() {
        Bench it = new Bench("STATUS 5: it is DOWN already").run(2, 1, 1);
        it.write(1, 0, 0, 0, 0);
        it.due.fine("down", it.judge.down(1, false));
        it.due.refused("down", it.judge.down(1, false), 5);
        it.due.refused("down, LOSING", it.judge.down(1, true), 5);
        it.versions(1, 1);
        it.ups(1, 0);
        return it.due;
    }

    private static Due upAlready() {
        Bench it = new Bench("STATUS 5: it is UP already").run(2, 1, 1);
        it.due.refused("up(0)", it.judge.up(0), 5);
        it.due.fine("down", it.judge.down(0, false));
        it.due.fine("up", it.judge.up(0), 0);
        it.due.refused("up(0)", it.judge.up(0), 5);
        it.ups(1, 1);
        return it.due;
    }

    private static Due withAllThatItHas() {
        Bench it = new Bench("A RUN: a COPY goes DOWN, with all that it has").run(3, 1, 1);
        it.due.fine("down", it.judge.down(2, false));
        it.write(1, 0, 0, 0, 0, 0, 0);
        it.due.fine("down", it.judge.down(0, false));
        it.versions(1, 1, 0);
        it.kept(1, 0, 0);
        it.due.fine("tell(4)", it.judge.tell(4), 0);
        return it.due;
    }

    private static Due losingIt() {
        Bench it = new Bench("A RUN: LOSING it: VERSION 0, HANDED ones that it keeps are LOST").run(3, 1, 1);
        it.due.fine("down", it.judge.down(1, false));
        it.due.fine("down", it.judge.down(2, false));
        it.write(1, 0, 0, 0, 0, 0, 0);
        it.kept(2, 0, 0);
        it.due.fine("down, LOSING", it.judge.down(0, true));
        it.versions(0, 0, 0);
        it.kept(0, 0, 0);
        it.due.fine("tell(4)", it.judge.tell(4), 2);
        it.due.fine("up", it.judge.up(0), 0);
        it.due.fine("up", it.judge.up(1), 0);
        it.versions(0, 0, 0);
        return it.due;
    }

    private static Due losingTwice() {
        Bench it = new Bench("A RUN: LOST ones are counted on and on").run(2, 1, 1);
        it.due.fine("down", it.judge.down(1, false));
        it.write(1, 0, 0, 0, 0);
        it.due.fine("down, LOSING", it.judge.down(0, true));
        it.tells(0, 1, 0, 0, 1);
        it.write(2, 0, 0, 0, 0);
        it.tells(0, 2, 0, 0, 3);
        it.due.fine("up", it.judge.up(1), 0);
        it.write(3, 0, 0, 0, 0);
        it.kept(0, 1);
        it.due.fine("down, LOSING what it keeps for COPY 0", it.judge.down(1, true));
        it.tells(0, 3, 0, 0, 4);
        it.kept(0, 0);
        it.due.fine("up", it.judge.up(0), 0);
        it.versions(0, 0);
        return it.due;
    }

    private static Due losingNothing() {
        Bench it = new Bench("A RUN: LOSING without HANDED ones: none is LOST").run(2, 1, 1);
        it.write(1, 0, 0, 0, 0);
        it.due.fine("down, LOSING", it.judge.down(0, true));
        it.versions(0, 1);
        it.due.fine("tell(4)", it.judge.tell(4), 0);
        return it.due;
    }

    private static Due othersKeepItStill() {
        Bench it = new Bench("A RUN: what others keep for one that goes DOWN is not LOST").run(2, 1, 1);
        it.due.fine("down, LOSING", it.judge.down(1, true));
        it.write(1, 0, 0, 0, 0);
        it.kept(1, 0);
        it.due.fine("up", it.judge.up(1), 1);
        it.versions(1, 1);
        it.due.fine("down, LOSING", it.judge.down(1, true));
        it.due.fine("up: nothing is kept any more", it.judge.up(1), 0);
        it.versions(1, 0);
        return it.due;
    }

    private static Due leastUpKeeps() {
        Bench it = new Bench("A RUN: for one that is DOWN the least COPY that is UP keeps it").run(4, 1, 1);
        it.due.fine("down", it.judge.down(0, false));
        it.due.fine("down", it.judge.down(3, false));
        it.write(1, 0, 0, 0, 0, 0, 0, 0, 0);
        it.kept(0, 2, 0, 0);
        it.due.fine("down", it.judge.down(1, false));
        it.write(2, 0, 0, 0, 0, 0, 0, 0, 0);
        it.kept(0, 2, 3, 0);
        return it.due;
    }

    private static Due greaterAloneIsKept() {
        Bench it = new Bench("A RUN: the greater VERSION alone, if it keeps one for it already").run(2, 1, 1);
        it.due.fine("down", it.judge.down(1, false));
        it.write(1, 0, 4, 0, 0);
        it.write(2, 0, 2, 0, 0);
        it.write(3, 0, 3, 0, 0);
        it.go(2, 2);
        it.kept(1, 0);
        it.go(1, 3);
        it.kept(1, 0);
        it.go(1, 4);
        it.kept(1, 0);
        it.due.fine("up", it.judge.up(1), 1);
        it.versions(3, 3);
        it.due.fine("tell(4)", it.judge.tell(4), 0);
        return it.due;
    }

    private static Due keptWithoutAWord() {
        Bench it = new Bench("A RUN: one that keeps it sends no word").run(2, 2, 1);
        it.due.fine("down", it.judge.down(1, false));
        it.write(1, 0, 0, 0, 0);
        it.due.fine("up", it.judge.up(1), 1);
        it.go(10, 10);
        it.versions(1, 1);
        it.due.refused("done(1)", it.judge.done(1), 7);
        return it.due;
    }

    private static Due lostWithoutAnUpCopy() {
        Bench it = new Bench("A RUN: without an UP COPY it is LOST").run(3, 1, 1);
        for (int copy = 0; copy < 3; copy++) {
            it.due.fine("down", it.judge.down(copy, false));
        }
        it.write(1, 0, 1, 2, 0, 0, 0);
        it.tells(0, 1, 0, 2, 1);
        it.go(1, 1);
        it.tells(1, 1, 0, 1, 2);
        it.due.fine("up", it.judge.up(0), 0);
        it.go(1, 2);
        it.tells(2, 1, 0, 0, 2);
        it.kept(1, 0, 0);
        return it.due;
    }

    private static Due noAnswerOfOneThatIsDown() {
        Bench it = new Bench("A RUN: of one that is DOWN nothing comes, and none is LOST").run(2, 1, 2);
        it.due.fine("down", it.judge.down(1, false));
        it.read(0, 0, 0, 0, 0, 0);
        it.tells(0, 0, 1, 0, 0);
        it.due.fine("up", it.judge.up(1), 0);
        it.go(10, 10);
        it.due.refused("got(0, 0)", it.judge.got(0, 0), 7);
        return it.due;
    }

    private static Due wordsComeAllTheSame() {
        Bench it = new Bench("A RUN: what a COPY sent ahead of going DOWN comes").run(1, 1, 1);
        it.write(1, 0, 5);
        it.read(0, 0, 0, 6);
        it.due.fine("down, LOSING", it.judge.down(0, true));
        it.go(6, 6);
        it.due.fine("done(1)", it.judge.done(1), 5);
        it.got(0, 6, 1, 0);
        return it.due;
    }

    private static Due givenAndGiving() {
        Bench it = new Bench("24: how many HANDED ones were given, to it and by it").run(3, 1, 1);
        it.due.fine("down", it.judge.down(1, false));
        it.write(1, 0, 0, 90, 0, 0, 0);
        it.due.fine("down", it.judge.down(0, false));
        it.due.fine("up, with its keeper DOWN", it.judge.up(1), 0);
        it.write(2, 0, 0, 90, 0, 0, 0);
        it.kept(1, 1, 0);
        it.versions(1, 2, 0);
        it.due.fine("up: 2 to it, 1 by it", it.judge.up(0), 2);
        it.kept(0, 0, 0);
        it.versions(2, 2, 0);
        return it.due;
    }

    private static Due greaterCounts() {
        Bench it = new Bench("A RUN: all other UP COPIES give it what they keep (the greater VERSION counts)").run(3, 1, 1);
        it.due.fine("down", it.judge.down(2, false));
        it.write(1, 90, 90, 5, 0, 0, 0);
        it.write(2, 90, 90, 0, 0, 0, 0);
        it.due.fine("down", it.judge.down(0, false));
        it.go(5, 5);
        it.due.fine("up", it.judge.up(0), 0);
        it.kept(1, 1, 0);
        it.due.fine("up: 2 of COPY 0, then 1 of COPY 1", it.judge.up(2), 2);
        it.versions(0, 0, 2);
        return it.due;
    }

    private static Due greaterOwnCounts() {
        Bench it = new Bench("A RUN: a HANDED one that is lesser is given, and changes no VERSION").run(2, 1, 1);
        it.write(1, 90, 3, 0, 0);
        it.write(2, 90, 0, 0, 0);
        it.versions(0, 2);
        it.due.fine("down", it.judge.down(1, false));
        it.go(3, 3);
        it.kept(1, 0);
        it.due.fine("up", it.judge.up(1), 1);
        it.versions(0, 2);
        it.kept(0, 0);
        return it.due;
    }

    private static Due givesToUpOnesAlone() {
        Bench it = new Bench("A RUN: then it gives what it keeps for others that are UP").run(3, 1, 1);
        it.due.fine("down", it.judge.down(1, false));
        it.due.fine("down", it.judge.down(2, false));
        it.write(1, 0, 0, 0, 0, 0, 0);
        it.due.fine("down", it.judge.down(0, false));
        it.due.fine("up", it.judge.up(1), 0);
        it.due.fine("up: to COPY 1 alone", it.judge.up(0), 1);
        it.versions(1, 1, 0);
        it.kept(1, 0, 0);
        return it.due;
    }

    private static Due givesToTheFirst() {
        Bench it = new Bench("A RUN: as one comes UP it gives COPY 0 too what it keeps for it").run(2, 1, 1);
        it.due.fine("down", it.judge.down(0, false));
        it.write(1, 0, 0, 0, 0);
        it.kept(0, 1);
        it.due.fine("down", it.judge.down(1, false));
        it.due.fine("up", it.judge.up(0), 0);
        it.due.fine("up", it.judge.up(1), 1);
        it.versions(1, 1);
        it.kept(0, 0);
        return it.due;
    }

    // ---- promise 25: sweep

    private static Due likeOnes() {
        Bench it = new Bench("25: 1: like ones, too");
        it.due.refused("without a RUN", it.judge.sweep(0, 0), 1);
        it.run(2, 1, 1);
        it.due.refused("UP", it.judge.sweep(1, 1), 1);
        it.due.fine("down", it.judge.down(1, false));
        it.due.refused("DOWN", it.judge.sweep(1, 1), 1);
        return it.due;
    }

    private static Due sweepOfOneNotUp() {
        Bench it = new Bench("STATUS 5: not UP").run(3, 1, 1);
        it.write(1, 0, 90, 90, 0, 0, 0);
        it.due.fine("down", it.judge.down(0, false));
        it.due.refused("the first", it.judge.sweep(0, 1), 5);
        it.due.refused("the second", it.judge.sweep(1, 0), 5);
        it.due.refused("1 ahead of 5", it.judge.sweep(0, 3), 1);
        it.due.refused("1 ahead of 5", it.judge.sweep(3, 0), 1);
        it.due.fine("down", it.judge.down(1, false));
        it.due.refused("both", it.judge.sweep(1, 0), 5);
        it.versions(1, 0, 0);
        return it.due;
    }

    private static Due sweepOfLikeVersions() {
        Bench it = new Bench("25: 1 if they differed, 0 else").run(3, 1, 1);
        it.due.fine("no WRITE yet", it.judge.sweep(0, 1), 0);
        it.due.is("status() of 0", it.judge.status(), 0);
        it.write(1, 90, 0, 90, 0, 0, 0);
        it.due.fine("the lesser one first", it.judge.sweep(0, 1), 1);
        it.due.fine("once more", it.judge.sweep(0, 1), 0);
        it.due.fine("the greater one first", it.judge.sweep(1, 2), 1);
        it.versions(1, 1, 1);
        return it.due;
    }

    private static Due sweepLeavesHanded() {
        Bench it = new Bench("A RUN: SWEEP: both have the greater VERSION, and nothing else is changed").run(3, 1, 1);
        it.due.fine("down", it.judge.down(2, false));
        it.write(1, 0, 90, 0, 0, 0, 0);
        it.due.fine("sweep", it.judge.sweep(0, 1), 1);
        it.versions(1, 1, 0);
        it.kept(1, 0, 0);
        it.tells(0, 1, 0, 1, 0, 0, 0);
        return it.due;
    }

    // ---- promises 26 to 29: of, done, got, tell

    private static Due whatBeyond() {
        Bench it = new Bench("26, 28, 29: a what that can't be").run(1, 1, 1);
        it.read(0, 0, 0, 0);
        for (int beyond : new int[] {-1, 3, MIN, MAX}) {
            it.due.refused("of(0, " + beyond + ")", it.judge.of(0, beyond), 1);
            it.due.refused("got(0, " + beyond + ")", it.judge.got(0, beyond), 1);
        }
        for (int beyond : new int[] {-1, 7, MIN, MAX}) {
            it.due.refused("tell(" + beyond + ")", it.judge.tell(beyond), 1);
        }
        return it.due;
    }

    private static Due writesBeyond() {
        Bench it = new Bench("27: done: 1 no such WRITE; 7 it is not DONE").run(1, 1, 1);
        it.due.refused("done(1) ahead of all", it.judge.done(1), 1);
        it.write(1, 0, 1);
        for (int beyond : new int[] {-1, 0, 2, 40, 41, MIN, MAX}) {
            it.due.refused("done(" + beyond + ")", it.judge.done(beyond), 1);
        }
        it.due.refused("done(1)", it.judge.done(1), 7);
        it.go(1, 1);
        it.due.fine("done(1)", it.judge.done(1), 1);
        return it.due;
    }

    private static Due readsBeyond() {
        Bench it = new Bench("28: got: 1 no such READ; 7 it is not DONE").run(1, 1, 1);
        it.due.refused("got(0, 0) ahead of all", it.judge.got(0, 0), 1);
        it.read(0, 0, 0, 1);
        for (int beyond : new int[] {-1, 1, 39, 40, MIN, MAX}) {
            it.due.refused("got(" + beyond + ", 0)", it.judge.got(beyond, 0), 1);
        }
        for (int what = 0; what < 3; what++) {
            it.due.refused("got(0, " + what + ")", it.judge.got(0, what), 7);
        }
        it.due.refused("1, a what, ahead of 7", it.judge.got(0, 3), 1);
        it.go(1, 1);
        it.got(0, 1, 0, 0);
        return it.due;
    }

    private static Due atATickBeforeIt() {
        Bench it = new Bench("28: DONE ahead of its beginning (at a tick before it)").run(2, 1, 1);
        it.write(1, 90, 2, 0, 0);
        it.go(1, 1);
        it.read(0, 0, 5, 9, 0, 0);
        it.go(1, 2);
        it.due.fine("done(1)", it.judge.done(1), 2);
        it.read(1, 0, 5, 9, 0, 0);
        it.go(1, 3);
        it.read(2, 0, 5, 9, 0, 0);
        it.go(6, 9);
        it.due.fine("begun a tick before it", it.judge.got(0, 2), 0);
        it.due.fine("begun at its tick", it.judge.got(1, 2), 0);
        it.due.fine("begun a tick behind it", it.judge.got(2, 2), 1);
        it.due.fine("tell(6)", it.judge.tell(6), 1);
        return it.due;
    }

    private static Due howManyWrites() {
        Bench it = new Bench("28: how many WRITES that were DONE are greater").run(2, 1, 1);
        it.write(1, 0, 0, 0, 0);
        it.write(2, 90, 0, 0, 0);
        it.write(3, 90, 90, 0, 0);
        it.write(4, 90, 0, 0, 0);
        it.go(1, 1);
        // 3 is not DONE; 1 is what COPY 0 has.
        it.read(0, 0, 0, 9, 0, 0);
        it.got(0, 1, 1, 2);
        it.read(1, 0, 9, 0, 0, 0);
        it.got(1, 1, 4, 0);
        it.due.fine("one READ of them, not two", it.judge.tell(6), 1);
        return it.due;
    }

    private static Due underWay() {
        Bench it = new Bench("29: LETTERS under way: those and their ways back, as long as they are").run(2, 1, 1);
        it.write(1, 1, 3, 1, 1);
        it.read(0, 0, 1, 3, 2, 2);
        it.tells(0, 1, 1, 4);
        it.go(1, 1);
        it.tells(1, 1, 1, 4);
        it.go(1, 2);
        it.tells(2, 1, 1, 3);
        it.go(1, 3);
        it.tells(3, 1, 1, 2);
        // The WRITE and the READ are DONE since; a word and an answer are under way all the same.
        it.due.fine("done(1)", it.judge.done(1), 2);
        it.due.fine("got(0, 0)", it.judge.got(0, 0), 3);
        it.go(1, 4);
        it.tells(4, 1, 1, 1);
        it.go(1, 5);
        it.tells(5, 1, 1, 0);
        return it.due;
    }

    private static Due asManyLetters() {
        Bench it = new Bench("A RUN: as many LETTERS as 40 WRITES and 40 READS of five COPIES send").run(5, 5, 5);
        it.due.fine("mending", it.judge.mending(true));
        it.delays(0, 0, 1000, 1000, 1000, 1000, 1000, 1000, 1000, 1000, 1000);
        it.delays(1, 0, 0, 0, 0, 0, 0, 0, 0, 0, 0);
        for (int act = 0; act < 40; act++) {
            it.judge.writes(0);
            it.judge.reads(1, 0);
            it.due.is("go", it.judge.go(1), act + 1);
        }
        // Each WRITE has its four letters and COPY 0's word under way, all READS have mended all they had to.
        it.tells(40, 40, 40, 200, 0, 0, 0);
        it.versions(40, 40, 40, 40, 40);
        it.go(960, 1000);
        it.tells(1000, 40, 40, 199);
        it.go(1039, 2039);
        it.tells(2039, 40, 40, 0);
        it.due.fine("done(1)", it.judge.done(1), 2000);
        it.due.fine("done(40)", it.judge.done(40), 2039);
        return it.due;
    }

    public static void main(String[] args) {
        Due.end(asItBegins(), numbersAtItsBeginning(), beginAnew(), countsAnew(), readersAnew(),
                answersAnew(), roomAnew(), sheetsAndChancesStay(),
                mendingOffAtFirst(), mendedOneTickLater(), onlyThoseThatAnswered(), firstAndLastAreMended(),
                nothingToMend(), mendingLost(),
                mendingKeepsTheGreater(), readersBeyond(), keptOffAtFirst(), raise(), otherReaders(), keptNoMore(),
                raiseHidesNoMiss(), actsOfNoSheet(), actsOfMissing(), actsOfTooFew(), delaysBeyond(),
                greatestDelays(), numbersBehindTheDelays(), delaysAsTheyWere(), fortyWrites(), fortyReads(),
                actsInOrder(), ofOneTick(), ofOneActCopyByCopy(), bySentNotByCopy(), bySameAct(), greaterOfItsOwn(),
                wthWord(), rthAnswer(), answersWhatItHas(), goBeyond(), manyTicks(), copiesBeyond(), downAlready(),
                upAlready(), withAllThatItHas(), losingIt(), losingTwice(), losingNothing(), othersKeepItStill(), leastUpKeeps(),
                greaterAloneIsKept(), keptWithoutAWord(), lostWithoutAnUpCopy(), noAnswerOfOneThatIsDown(),
                wordsComeAllTheSame(), givenAndGiving(), greaterCounts(), greaterOwnCounts(), givesToUpOnesAlone(), givesToTheFirst(),
                likeOnes(), sweepOfOneNotUp(), sweepOfLikeVersions(), sweepLeavesHanded(), whatBeyond(),
                writesBeyond(), readsBeyond(), atATickBeforeIt(), howManyWrites(), underWay(), asManyLetters());
    }
}
