/** Promises 17 to 29, by hand. */
public final class RunTest {
    private static final int MIN = Integer.MIN_VALUE;
    private static final int MAX = Integer.MAX_VALUE;

    private static Due withoutRun() {
        Bench it = new Bench("without a RUN");
        Due due = it.due;
        ReadAge judge = it.judge;
        due.refused("mending", judge.mending(true), 4);
        due.refused("keep", judge.keep(3, true), 4);
        due.refused("keep", judge.keep(4, true), 1);
        due.refused("keep", judge.keep(-1, true), 1);
        due.refused("writes", judge.writes(3), 4);
        due.refused("writes", judge.writes(4), 1);
        due.refused("writes", judge.writes(-1), 1);
        due.refused("reads", judge.reads(0, 3), 4);
        due.refused("reads", judge.reads(4, 0), 1);
        due.refused("reads", judge.reads(0, 4), 1);
        due.refused("go", judge.go(10000), 4);
        due.refused("go", judge.go(10001), 1);
        due.refused("go", judge.go(-1), 1);
        due.refused("down", judge.down(4, true), 4);
        due.refused("down", judge.down(0, true), 4);
        due.refused("down", judge.down(5, true), 1);
        due.refused("down", judge.down(-1, true), 1);
        due.refused("up", judge.up(4), 4);
        due.refused("up", judge.up(5), 1);
        due.refused("up", judge.up(-1), 1);
        due.refused("sweep", judge.sweep(3, 4), 4);
        due.refused("sweep", judge.sweep(4, 4), 1);
        due.refused("sweep", judge.sweep(0, 5), 1);
        due.refused("sweep", judge.sweep(-1, 0), 1);
        due.refused("of", judge.of(4, 2), 4);
        due.refused("of", judge.of(4, 3), 1);
        due.refused("of", judge.of(4, -1), 1);
        due.refused("of", judge.of(5, 0), 1);
        due.refused("done", judge.done(1), 4);
        due.refused("done", judge.done(40), 4);
        due.refused("done", judge.done(0), 1);
        due.refused("done", judge.done(41), 1);
        due.refused("got", judge.got(0, 0), 4);
        due.refused("got", judge.got(39, 2), 4);
        due.refused("got", judge.got(40, 0), 1);
        due.refused("got", judge.got(-1, 0), 1);
        due.refused("got", judge.got(0, 3), 1);
        due.refused("tell", judge.tell(6), 4);
        due.refused("tell", judge.tell(7), 1);
        due.refused("tell", judge.tell(-1), 1);
        return due;
    }

    private static Due begin() {
        Bench it = new Bench("promise 17").run(4, 1, 1);
        Due due = it.due;
        ReadAge judge = it.judge;
        due.fine("of(3, 0)", judge.of(3, 0), 0);
        due.refused("of(4, 0)", judge.of(4, 0), 1);
        // A RUN has its numbers as they were at its beginning.
        judge.numbers(2, 2, 2);
        due.fine("of(3, 0)", judge.of(3, 0), 0);
        it.write(1, 0, 5, 5, 5, 0, 0, 0, 9);
        due.fine("done by one word", judge.done(1), 0);
        it.read(0, 0, 0, 9, 9, 9, 0, 0, 0, 0);
        it.got(0, 0, 1, 0);
        judge.mending(true);
        judge.keep(0, true);
        judge.down(3, false);
        it.go(20, 20);
        judge.down(2, true);
        it.kept(1, 0, 0, 0);
        due.fine("tell(4)", judge.tell(4), 0);
        // Anew: nothing of the old one is left.
        due.fine("begin", judge.begin());
        it.tells(0, 0, 0, 0, 0, 0, 0);
        it.versions(0, 0);
        it.kept(0, 0);
        due.fine("of(0, 1)", judge.of(0, 1), 1);
        due.refused("of(2, 1)", judge.of(2, 1), 1);
        due.refused("done(1)", judge.done(1), 1);
        due.refused("got(0, 0)", judge.got(0, 0), 1);
        it.write(1, 0, 5, 0, 0);
        due.refused("done by two words", judge.done(1), 7);
        it.read(0, 0, 0, 0, 0, 0);
        it.got(0, 0, 1, 0);
        // MENDING and KEPT are off again.
        it.go(1, 1);
        it.versions(1, 0);
        it.run(2, 1, 1);
        it.write(1, 0, 5, 0, 0);
        it.read(0, 0, 0, 5, 0, 0);
        it.read(1, 0, 5, 0, 0, 0);
        it.got(1, 0, 0, 0);
        due.fine("tell(5)", judge.tell(5), 0);
        // READERS of an older RUN know nothing: KEPT, but 0 is not lesser.
        it.run(2, 1, 1);
        judge.keep(0, true);
        it.read(0, 0, 0, 0, 0, 0);
        it.got(0, 0, 0, 0);
        // Letters of the older RUN are gone, and what was DOWN is UP.
        it.write(1, 0, 5, 0, 0);
        judge.down(1, true);
        due.fine("begin", judge.begin());
        due.fine("of(1, 1)", judge.of(1, 1), 1);
        it.go(50, 50);
        it.versions(0, 0);
        return due;
    }

    /** Nothing of an older RUN is counted in the next one. */
    private static Due anew() {
        Bench it = new Bench("a RUN anew").run(2, 1, 1);
        Due due = it.due;
        ReadAge judge = it.judge;
        it.write(1, 0, 90, 0, 0);
        it.go(1, 1);
        judge.keep(2, true);
        it.read(0, 2, 0, 9, 0, 0);
        it.read(1, 2, 9, 0, 0, 0);
        judge.down(1, false);
        it.write(2, 0, 0, 0, 0);
        judge.down(0, false);
        it.write(3, 0, 0, 0, 0);
        it.tells(1, 3, 2, 3, 2, 1, 1);
        it.kept(1, 0);
        due.fine("begin", judge.begin());
        it.tells(0, 0, 0, 0, 0, 0, 0);
        it.kept(0, 0);
        it.versions(0, 0);
        // What COPY 0 answered in an older RUN mends nothing: its answer is not among the r.
        it.run(2, 1, 1);
        it.read(0, 0, 0, 9, 0, 0);
        it.run(2, 1, 1);
        judge.mending(true);
        it.write(1, 90, 0, 0, 0);
        it.read(0, 0, 9, 0, 0, 0);
        it.go(2, 2);
        it.versions(0, 1);
        // Each RUN has room for all its LETTERS, whatever came in older ones.
        judge.numbers(5, 5, 5);
        it.delays(0, 9, 9, 9, 9, 9, 1, 1, 1, 1, 1);
        for (int run = 0; run < 3; run++) {
            due.fine("begin", judge.begin());
            for (int write = 1; write <= 40; write++) {
                due.fine("writes", judge.writes(0), write);
            }
            due.fine("tell(3)", judge.tell(3), 200);
            it.go(9, 9);
            due.fine("tell(3)", judge.tell(3), 200);
            it.go(1, 10);
            due.fine("done(40)", judge.done(40), 10);
            it.versions(40, 40, 40, 40, 40);
        }
        return due;
    }

    private static Due mending() {
        Bench it = new Bench("promise 18").run(4, 1, 3);
        Due due = it.due;
        ReadAge judge = it.judge;
        due.fine("mending", judge.mending(true));
        it.write(1, 0, 90, 90, 90, 0, 0, 0, 0);
        // COPIES 0, 1, 2 answer: 1 and 2 are mended one tick later, 3 is not looked at.
        it.read(0, 0, 0, 0, 0, 0, 2, 0, 1, 3);
        it.go(2, 2);
        it.versions(1, 0, 0, 0);
        due.fine("got(0, 0)", judge.got(0, 0), 2);
        // On the way: 3 letters of the WRITE, 2 mending ones, the answer of 3.
        due.fine("tell(3)", judge.tell(3), 6);
        it.go(1, 3);
        it.versions(1, 1, 1, 0);
        // No word back: only those of the WRITE itself.
        due.fine("tell(3)", judge.tell(3), 3);
        due.fine("mending", judge.mending(false));
        it.read(1, 0, 9, 0, 0, 0, 0, 0, 0, 0);
        it.go(5, 8);
        it.versions(1, 1, 1, 0);
        // It counts whether it is on as the READ is DONE.
        it.read(2, 0, 9, 0, 0, 0, 0, 0, 0, 2);
        it.go(1, 9);
        due.fine("mending", judge.mending(true));
        it.go(1, 10);
        it.versions(1, 1, 1, 0);
        it.go(1, 11);
        it.versions(1, 1, 1, 1);
        return due;
    }

    /** Mending letters do as a WRITE's, by a COPY that is DOWN, and carry what the answers had. */
    private static Due mendingLetters() {
        Bench it = new Bench("mending letters").run(3, 1, 2);
        Due due = it.due;
        ReadAge judge = it.judge;
        judge.mending(true);
        judge.keep(0, true);
        it.write(1, 0, 0, 0, 0, 0, 0);
        it.write(2, 0, 90, 90, 0, 0, 0);
        it.write(3, 90, 90, 0, 0, 0, 0);
        it.versions(2, 1, 3);
        it.read(0, 0, 9, 9, 0, 0, 0, 0);
        it.go(9, 9);
        it.got(0, 9, 3, 0);
        it.go(1, 10);
        it.versions(3, 1, 3);
        // The READER is told 2, the answers had 1 alone: 1 is what mends.
        it.run(3, 1, 2);
        judge.keep(0, true);
        judge.mending(true);
        it.write(1, 0, 90, 90, 0, 0, 0);
        it.write(2, 90, 90, 0, 0, 0, 0);
        it.read(0, 0, 9, 0, 0, 0, 0, 0);
        it.got(0, 0, 2, 0);
        it.go(1, 1);
        it.versions(1, 2, 2);
        judge.down(1, true);
        judge.up(1);
        it.versions(1, 0, 2);
        it.read(1, 0, 0, 0, 9, 0, 0, 0);
        it.got(1, 1, 2, 1);
        due.fine("tell(5)", judge.tell(5), 1);
        // COPY 1 is DOWN as the mending letter comes: the least UP COPY keeps it.
        judge.down(1, false);
        it.go(1, 2);
        it.kept(1, 0, 0);
        due.fine("up", judge.up(1), 1);
        it.versions(1, 1, 2);
        return due;
    }

    private static Due keep() {
        Bench it = new Bench("promise 19").run(2, 1, 1);
        Due due = it.due;
        ReadAge judge = it.judge;
        for (int beyond : new int[] {-1, 4, MIN, MAX}) {
            due.refused("keep " + beyond, judge.keep(beyond, true), 1);
        }
        for (int reader = 0; reader < 4; reader++) {
            due.fine("keep", judge.keep(reader, reader != 1));
        }
        it.write(1, 0, 90, 0, 0);
        it.write(2, 0, 90, 0, 0);
        for (int reader = 0; reader < 3; reader++) {
            it.read(2 * reader, reader, 0, 9, 0, 0);
            it.got(2 * reader, 0, 2, 0);
            it.read(2 * reader + 1, reader, 9, 0, 0, 0);
            it.got(2 * reader + 1, 0, reader == 1 ? 0 : 2, 0);
        }
        due.fine("tell(5)", judge.tell(5), 2);
        // READER 3 has seen nothing yet; READER 1 has, though it was not KEPT.
        it.read(6, 3, 9, 0, 0, 0);
        it.got(6, 0, 0, 0);
        due.fine("keep", judge.keep(1, true));
        it.read(7, 1, 9, 0, 0, 0);
        it.got(7, 0, 2, 0);
        due.fine("tell(5)", judge.tell(5), 3);
        // As great is no RAISE; no more KEPT, no RAISE.
        it.read(8, 1, 0, 9, 0, 0);
        due.fine("tell(5)", judge.tell(5), 3);
        due.fine("keep", judge.keep(1, false));
        it.read(9, 1, 9, 0, 0, 0);
        it.got(9, 0, 0, 0);
        // What counts is whether it is KEPT as the READ is DONE; a RAISE hides no miss.
        it.go(1, 1);
        it.read(10, 1, 20, 0, 0, 2);
        it.go(1, 2);
        due.fine("keep", judge.keep(1, true));
        it.go(1, 3);
        it.got(10, 3, 2, 2);
        due.fine("tell(6)", judge.tell(6), 1);
        due.fine("tell(5)", judge.tell(5), 4);
        return due;
    }

    private static Due writes() {
        Bench it = new Bench("promise 20");
        Due due = it.due;
        ReadAge judge = it.judge;
        judge.begin();
        for (int beyond : new int[] {-1, 4, MIN, MAX}) {
            due.refused("writes " + beyond, judge.writes(beyond), 1);
        }
        due.refused("writes MISSING", judge.writes(0), 2);
        it.delays(0, 0, 0, 1001, 0, 0);
        due.refused("writes of 5 numbers", judge.writes(0), 3);
        it.delays(0, 0, 0, 1001, 0, 0, 0);
        due.refused("a delay", judge.writes(0), 1);
        it.delays(0, 0, 0, -1, 0, 0, 0);
        due.refused("a delay", judge.writes(0), 1);
        it.delays(0, 0, 0, 0, 0, 0, -1);
        due.refused("a delay", judge.writes(0), 1);
        judge.sheet(2, 3, 6);
        judge.write(2, 1, 1L << 32);
        due.refused("a delay", judge.writes(2), 1);
        it.delays(0, -1, 0, 0, 0, 0, 0);
        due.refused("a delay", judge.writes(0), 1);
        due.fine("tell(1)", judge.tell(1), 0);
        // Numbers beyond the first 2 N may be any.
        it.write(1, 1000, 0, 1, 1000, 2, 0, -1, 1001);
        it.versions(0, 1, 0);
        it.go(1, 1);
        it.versions(0, 1, 1);
        due.refused("done by one word", judge.done(1), 7);
        it.go(1, 2);
        due.fine("done by the second word", judge.done(1), 2);
        it.go(998, 1000);
        it.versions(1, 1, 1);
        due.fine("tell(3)", judge.tell(3), 1);
        it.go(999, 1999);
        due.fine("tell(3)", judge.tell(3), 1);
        it.go(1, 2000);
        due.fine("tell(3)", judge.tell(3), 0);
        it.delays(0, 0, 0, 0, 0, 0, 0);
        for (int write = 2; write <= 40; write++) {
            due.fine("writes", judge.writes(0), write);
        }
        due.refused("the 41st", judge.writes(0), 6);
        it.delays(0, 0, 0, 0, 0, 0, 1001);
        due.refused("a delay ahead of the 41st", judge.writes(0), 1);
        judge.drop(0);
        due.refused("MISSING ahead of the 41st", judge.writes(0), 2);
        it.versions(40, 40, 40);
        due.fine("tell(1)", judge.tell(1), 40);
        due.fine("done(40)", judge.done(40), 2000);
        due.refused("done(41)", judge.done(41), 1);
        due.fine("begin", judge.begin());
        it.write(1, 0, 0, 0, 0, 0, 0);
        return due;
    }

    /** The greater VERSION stays, whatever the order in which letters come. */
    private static Due order() {
        Bench it = new Bench("the order of LETTERS").run(2, 2, 1);
        Due due = it.due;
        ReadAge judge = it.judge;
        it.write(1, 5, 3, 0, 0);
        it.write(2, 2, 4, 0, 0);
        it.go(2, 2);
        it.versions(2, 0);
        it.go(1, 3);
        it.versions(2, 1);
        it.go(2, 5);
        it.versions(2, 2);
        due.fine("done(1)", judge.done(1), 5);
        due.fine("done(2)", judge.done(2), 4);
        // Of one tick the letter that was sent first comes first: the READ's is behind the WRITE's.
        it.run(2, 1, 1);
        it.write(1, 3, 3, 0, 0);
        it.read(0, 0, 3, 9, 0, 0);
        it.read(1, 0, 9, 3, 0, 0);
        it.go(3, 3);
        it.got(0, 3, 1, 0);
        it.got(1, 3, 1, 0);
        // And it is ahead of the WRITE's, if it was sent ahead of it.
        it.run(2, 1, 1);
        it.read(0, 0, 3, 9, 0, 0);
        it.write(1, 3, 3, 0, 0);
        it.go(3, 3);
        it.got(0, 3, 0, 0);
        // Sent at a later tick, for the same one: COPY 1's answer was sent at 1, COPY 0's at 2.
        it.run(2, 2, 1);
        it.write(1, 0, 90, 0, 0);
        it.read(0, 0, 2, 1, 2, 3);
        it.go(4, 4);
        it.got(0, 4, 0, 0);
        // Of one act COPY by COPY: both answers at once, that of COPY 0 is the one.
        it.read(1, 0, 0, 0, 0, 0);
        it.got(1, 4, 1, 0);
        // A word with a delay of 0 that is sent as ticks go by comes at that tick, behind what was sent.
        it.run(2, 2, 2);
        it.write(1, 7, 7, 0, 0);
        it.go(10, 10);
        due.fine("done(1)", judge.done(1), 7);
        due.fine("tell(3)", judge.tell(3), 0);
        return due;
    }

    private static Due reads() {
        Bench it = new Bench("promise 21");
        Due due = it.due;
        ReadAge judge = it.judge;
        judge.begin();
        for (int beyond : new int[] {-1, 4, MIN, MAX}) {
            due.refused("reads " + beyond, judge.reads(beyond, 0), 1);
            due.refused("reader " + beyond, judge.reads(0, beyond), 1);
        }
        due.refused("reads MISSING", judge.reads(0, 0), 2);
        it.delays(0, 0, 0, 1001, 0, 0);
        due.refused("reads of 5 numbers", judge.reads(0, 0), 3);
        it.delays(0, 0, 0, 1001, 0, 0, 0);
        due.refused("a delay", judge.reads(0, 0), 1);
        it.delays(0, 0, 0, 0, 0, -1, 0);
        due.refused("a delay", judge.reads(0, 0), 1);
        due.fine("tell(2)", judge.tell(2), 0);
        it.read(0, 3, 1000, 2, 0, 0, 5, 1000);
        it.go(999, 999);
        due.refused("got", judge.got(0, 0), 7);
        it.go(1, 1000);
        it.got(0, 1000, 0, 0);
        it.delays(0, 0, 0, 0, 0, 0, 0);
        for (int read = 1; read < 40; read++) {
            due.fine("reads", judge.reads(0, read % 4), read);
        }
        due.refused("the 41st", judge.reads(0, 0), 6);
        due.fine("a WRITE still may", judge.writes(0), 1);
        due.fine("tell(2)", judge.tell(2), 40);
        due.fine("got(39, 0)", judge.got(39, 0), 1000);
        return due;
    }

    /** The first r answers alone count, and a COPY answers with what it has as the letter comes. */
    private static Due answers() {
        Bench it = new Bench("answers").run(3, 1, 2);
        Due due = it.due;
        it.write(1, 0, 2, 9, 0, 0, 0);
        // COPY 1 answers at 1 with 0, long ahead of its word; COPY 2 at 3; that of COPY 0 comes too late.
        it.read(0, 0, 0, 1, 3, 8, 3, 0);
        it.go(3, 3);
        due.refused("got", it.judge.got(0, 1), 7);
        it.go(1, 4);
        it.got(0, 4, 0, 0);
        it.go(6, 10);
        it.got(0, 4, 0, 0);
        it.tells(10, 1, 1, 0, 0, 0, 0);
        // The greatest of the r, whichever came first.
        it.run(3, 1, 2);
        it.write(1, 0, 9, 9, 0, 0, 0);
        it.write(2, 9, 0, 9, 0, 0, 0);
        it.read(0, 0, 0, 1, 9, 0, 0, 0);
        it.go(1, 1);
        it.got(0, 1, 2, 0);
        it.read(1, 0, 1, 0, 9, 0, 0, 0);
        it.go(1, 2);
        it.got(1, 2, 2, 0);
        it.read(2, 0, 0, 9, 0, 0, 0, 0);
        it.got(2, 2, 1, 1);
        return due;
    }

    private static Due go() {
        Bench it = new Bench("promise 22").run(1, 1, 1);
        Due due = it.due;
        ReadAge judge = it.judge;
        for (int beyond : new int[] {-1, 10001, MIN, MAX}) {
            due.refused("go " + beyond, judge.go(beyond), 1);
        }
        it.go(0, 0);
        it.go(10000, 10000);
        it.write(1, 3, 4);
        it.go(0, 10000);
        it.versions(0);
        it.go(3, 10003);
        it.versions(1);
        due.refused("done", judge.done(1), 7);
        it.go(10000, 20003);
        due.fine("done", judge.done(1), 10007);
        return due;
    }

    private static Due downAndUp() {
        Bench it = new Bench("promises 23 and 24").run(4, 1, 1);
        Due due = it.due;
        ReadAge judge = it.judge;
        for (int beyond : new int[] {-1, 4, 5, MIN, MAX}) {
            due.refused("down " + beyond, judge.down(beyond, true), 1);
            due.refused("up " + beyond, judge.up(beyond), 1);
        }
        due.refused("up of an UP one", judge.up(0), 5);
        it.write(1, 0, 0, 0, 0, 0, 0, 0, 0);
        due.fine("down", judge.down(3, false));
        due.fine("down", judge.down(2, true));
        due.refused("down of a DOWN one", judge.down(3, true), 5);
        due.refused("down of a DOWN one", judge.down(2, false), 5);
        it.versions(1, 1, 0, 1);
        due.fine("of(3, 1)", judge.of(3, 1), 0);
        due.fine("of(1, 1)", judge.of(1, 1), 1);
        // Kept by the least UP COPY, the greater VERSION alone.
        it.write(2, 0, 0, 0, 0, 0, 0, 0, 0);
        it.kept(2, 0, 0, 0);
        it.write(3, 0, 0, 0, 9, 0, 0, 0, 0);
        it.kept(2, 0, 0, 0);
        // COPY 0 goes DOWN with what it keeps; from here on COPY 1 keeps too.
        due.fine("down", judge.down(0, false));
        it.write(4, 0, 0, 0, 9, 0, 0, 0, 0);
        it.kept(2, 2, 0, 0);
        it.versions(3, 4, 0, 1);
        // COPY 2 comes UP: COPY 1 gives it 4; what COPY 0 keeps stays, as it is DOWN.
        due.fine("up", judge.up(2), 1);
        it.versions(3, 4, 4, 1);
        it.kept(2, 1, 0, 0);
        // COPY 0 comes UP: it is given 4 by COPY 1, and gives 3 to COPY 2, that has a greater one.
        due.fine("up", judge.up(0), 2);
        it.versions(4, 4, 4, 1);
        it.kept(1, 0, 0, 0);
        due.fine("up", judge.up(3), 1);
        it.versions(4, 4, 4, 2);
        it.kept(0, 0, 0, 0);
        it.go(9, 9);
        it.versions(4, 4, 4, 4);
        due.fine("tell(4)", judge.tell(4), 0);
        return due;
    }

    private static Due handed() {
        Bench it = new Bench("HANDED ones").run(3, 1, 1);
        Due due = it.due;
        ReadAge judge = it.judge;
        // Two keepers give one COPY what they keep for it; the greater VERSION counts.
        judge.down(2, false);
        it.write(1, 0, 0, 0, 0, 0, 0);
        judge.down(0, false);
        it.write(2, 9, 0, 0, 0, 0, 0);
        due.fine("up(0)", judge.up(0), 0);
        it.kept(1, 1, 0);
        due.fine("up(2)", judge.up(2), 2);
        it.versions(1, 2, 2);
        it.kept(0, 0, 0);
        it.go(9, 9);
        it.versions(2, 2, 2);
        // LOSING: each HANDED one that it keeps is LOST, and its VERSION is 0.
        judge.down(1, false);
        judge.down(2, false);
        it.write(3, 0, 0, 0, 0, 0, 0);
        it.kept(2, 0, 0);
        due.fine("down", judge.down(0, true));
        due.fine("tell(4)", judge.tell(4), 2);
        it.kept(0, 0, 0);
        it.versions(0, 2, 2);
        // All are DOWN: a WRITE's letters are LOST, a READ's are not.
        it.write(4, 0, 0, 0, 0, 0, 0);
        due.fine("tell(4)", judge.tell(4), 5);
        it.read(0, 0, 0, 0, 0, 0, 0, 0);
        due.refused("got", judge.got(0, 0), 7);
        due.fine("tell(4)", judge.tell(4), 5);
        due.fine("tell(3)", judge.tell(3), 0);
        due.fine("up(1)", judge.up(1), 0);
        it.versions(0, 2, 2);
        // What a COPY kept for COPY 0 as it went DOWN it gives as it comes UP, if COPY 0 is UP then.
        it.run(3, 1, 1);
        judge.down(0, false);
        it.write(1, 0, 0, 90, 0, 0, 0);
        it.kept(0, 1, 0);
        judge.down(1, false);
        due.fine("up(0)", judge.up(0), 0);
        it.versions(0, 1, 0);
        due.fine("up(1)", judge.up(1), 1);
        it.versions(1, 1, 0);
        it.kept(0, 0, 0);
        // What was LOST is not given.
        judge.down(0, false);
        it.write(2, 0, 90, 90, 0, 0, 0);
        it.kept(0, 1, 0);
        judge.down(1, true);
        due.fine("tell(4)", judge.tell(4), 1);
        it.kept(0, 0, 0);
        due.fine("up(1)", judge.up(1), 0);
        due.fine("up(0)", judge.up(0), 0);
        it.versions(1, 0, 0);
        // A lesser VERSION that comes later does not take the place of the greater one that is kept.
        it.run(2, 1, 1);
        it.write(1, 0, 5, 0, 0);
        it.write(2, 0, 3, 0, 0);
        judge.down(1, false);
        it.go(5, 5);
        it.kept(1, 0);
        due.fine("up(1)", judge.up(1), 1);
        it.versions(2, 2);
        // No word comes for what is kept.
        it.run(2, 2, 1);
        judge.down(1, false);
        it.write(1, 0, 0, 0, 0);
        due.refused("done", judge.done(1), 7);
        judge.up(1);
        it.go(5, 5);
        due.refused("done", judge.done(1), 7);
        it.versions(1, 1);
        // Words and answers of a COPY that went DOWN since come all the same.
        it.run(1, 1, 1);
        it.write(1, 0, 5);
        it.read(0, 0, 0, 6);
        judge.down(0, true);
        it.go(6, 6);
        due.fine("done", judge.done(1), 5);
        it.got(0, 6, 1, 0);
        return due;
    }

    /** As many COPIES as can be. */
    private static Due five() {
        Bench it = new Bench("five COPIES").run(5, 1, 5);
        Due due = it.due;
        ReadAge judge = it.judge;
        judge.mending(true);
        it.write(1, 90, 90, 90, 90, 0, 0, 0, 0, 0, 0);
        it.read(0, 0, 0, 0, 0, 0, 0, 0, 0, 0, 0, 0);
        it.go(1, 1);
        it.versions(1, 1, 1, 1, 1);
        for (int copy = 0; copy < 4; copy++) {
            due.fine("down", judge.down(copy, copy == 1));
        }
        it.write(2, 0, 0, 0, 0, 0, 0, 0, 0, 0, 0);
        it.kept(0, 0, 0, 0, 4);
        it.versions(1, 0, 1, 1, 2);
        due.fine("up", judge.up(0), 1);
        due.fine("down", judge.down(4, false));
        due.fine("up", judge.up(1), 0);
        due.fine("up", judge.up(2), 0);
        due.fine("up", judge.up(4), 2);
        it.kept(0, 0, 0, 0, 1);
        it.versions(2, 2, 2, 1, 2);
        due.fine("down", judge.down(4, true));
        due.fine("tell(4)", judge.tell(4), 1);
        due.fine("sweep", judge.sweep(0, 1), 0);
        due.refused("sweep", judge.sweep(0, 5), 1);
        due.refused("of(5, 0)", judge.of(5, 0), 1);
        // As many LETTERS as a RUN can have: each READ mends the four COPIES that its WRITE's come late to.
        it.run(5, 5, 5);
        judge.mending(true);
        it.delays(0, 0, 1000, 1000, 1000, 1000, 0, 0, 0, 0, 0);
        it.delays(1, 0, 0, 0, 0, 0, 0, 0, 0, 0, 0);
        for (int act = 0; act < 40; act++) {
            due.fine("writes", judge.writes(0), act + 1);
            due.fine("reads", judge.reads(1, 0), act);
            due.fine("tell(3)", judge.tell(3), 4 * (act + 2));
            it.go(1, act + 1);
        }
        it.versions(40, 40, 40, 40, 40);
        it.go(1000, 1040);
        it.tells(1040, 40, 40, 0, 0, 0, 0);
        for (int act = 0; act < 40; act++) {
            due.fine("done", judge.done(act + 1), 1000 + act);
        }
        return due;
    }

    private static Due sweep() {
        Bench it = new Bench("promise 25").run(3, 1, 1);
        Due due = it.due;
        ReadAge judge = it.judge;
        for (int beyond : new int[] {-1, 3, MIN, MAX}) {
            due.refused("sweep", judge.sweep(beyond, 0), 1);
            due.refused("sweep", judge.sweep(0, beyond), 1);
            due.refused("sweep", judge.sweep(beyond, beyond), 1);
        }
        due.refused("like ones", judge.sweep(1, 1), 1);
        due.fine("no WRITE yet", judge.sweep(0, 1), 0);
        it.write(1, 0, 9, 9, 0, 0, 0);
        due.fine("sweep", judge.sweep(1, 0), 1);
        it.versions(1, 1, 0);
        due.fine("sweep", judge.sweep(1, 0), 0);
        due.fine("sweep", judge.sweep(1, 2), 1);
        it.versions(1, 1, 1);
        judge.down(2, false);
        due.refused("not UP", judge.sweep(0, 2), 5);
        due.refused("not UP", judge.sweep(2, 0), 5);
        due.refused("like ones ahead of not UP", judge.sweep(2, 2), 1);
        due.fine("the others", judge.sweep(0, 1), 0);
        return due;
    }

    private static Due looks() {
        Bench it = new Bench("promises 26 to 29").run(3, 2, 2);
        Due due = it.due;
        ReadAge judge = it.judge;
        for (int beyond : new int[] {-1, 3, 4, MIN, MAX}) {
            due.refused("of a COPY", judge.of(beyond, 0), 1);
        }
        for (int beyond : new int[] {-1, 3, MIN, MAX}) {
            due.refused("of, what", judge.of(0, beyond), 1);
        }
        for (int beyond : new int[] {-1, 7, MIN, MAX}) {
            due.refused("tell", judge.tell(beyond), 1);
        }
        it.write(1, 0, 1, 5, 0, 0, 0);
        for (int beyond : new int[] {0, 2, -1, 40, MIN, MAX}) {
            due.refused("done", judge.done(beyond), 1);
        }
        due.refused("done", judge.done(1), 7);
        it.read(0, 0, 0, 0, 4, 1, 2, 0);
        for (int beyond : new int[] {1, -1, 39, MIN, MAX}) {
            due.refused("got", judge.got(beyond, 0), 1);
        }
        for (int beyond : new int[] {-1, 3, MIN, MAX}) {
            due.refused("got, what", judge.got(0, beyond), 1);
        }
        due.refused("got", judge.got(0, 2), 7);
        // Under way: two letters and no word of the WRITE, a letter and two answers of the READ.
        it.tells(0, 1, 1, 5, 0, 0, 0);
        it.go(1, 1);
        due.fine("done", judge.done(1), 1);
        // At the tick at which the WRITE is DONE a READ that has not got it misses nothing ..
        it.read(1, 0, 9, 9, 0, 0, 0, 0);
        it.go(9, 10);
        it.run(3, 1, 1);
        it.write(1, 0, 90, 90, 1, 0, 0);
        it.go(1, 1);
        due.fine("done", judge.done(1), 1);
        it.read(0, 0, 9, 0, 9, 0, 0, 0);
        it.got(0, 1, 0, 0);
        // .. and one tick later it does; all such WRITES count, greater than what its answers have.
        it.write(2, 0, 90, 90, 0, 0, 0);
        it.write(3, 90, 90, 2, 0, 0, 0);
        it.write(4, 0, 90, 90, 0, 0, 0);
        it.go(1, 2);
        it.read(1, 0, 9, 0, 9, 0, 0, 0);
        it.got(1, 2, 0, 3);
        due.fine("tell(6)", judge.tell(6), 1);
        // What is DONE behind its beginning does not count, however late the READ is DONE.
        it.read(2, 0, 9, 3, 9, 0, 0, 0);
        it.go(3, 5);
        due.fine("done(3)", judge.done(3), 3);
        it.got(2, 5, 0, 3);
        it.read(3, 0, 9, 9, 0, 0, 0, 0);
        it.got(3, 5, 3, 1);
        it.read(4, 0, 9, 0, 9, 0, 0, 0);
        it.got(4, 5, 0, 4);
        it.read(5, 0, 0, 9, 9, 0, 0, 0);
        it.got(5, 5, 4, 0);
        // Under way: 2 letters of each WRITE and 2 of each READ.
        it.tells(5, 4, 6, 20, 0, 0, 4);
        return due;
    }

    public static void main(String[] args) {
        Due.end(withoutRun(), begin(), anew(), mending(), mendingLetters(), keep(), writes(), order(), reads(), answers(),
                go(), downAndUp(), handed(), five(), sweep(), looks());
    }
}
