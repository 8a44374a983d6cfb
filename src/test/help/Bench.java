import java.math.BigInteger;

/** One new object with what is due of it, and calls that tests make again and again. */
public final class Bench {
    public final ReadAge judge = new ReadAge();
    public final Due due = new Due(judge);

    /** What is asked: a sentence of the document, or a promise by its number. */
    public Bench(String what) {
        due.in(what);
    }

    /** A SHEET of a sort with just these numbers. */
    public void sheet(int sheet, int sort, long... numbers) {
        due.fine("sheet " + sheet, judge.sheet(sheet, sort, numbers.length));
        for (int place = 0; place < numbers.length; place++) {
            due.fine("write " + sheet + " " + place, judge.write(sheet, place, numbers[place]));
        }
    }

    /** The first numbers of a SHEET are these. */
    public void row(int sheet, long... numbers) {
        for (int place = 0; place < numbers.length; place++) {
            due.fine("read " + sheet + " " + place, judge.read(sheet, place), numbers[place]);
        }
    }

    /** What a number comes to be in the middle one of SHEET 0's three places, those beside it left alone. */
    public void wrap(long number, long want) {
        due.fine("write " + number, judge.write(0, 1, number));
        row(0, 0, want, 0);
    }

    /** Weights for a TABLE, through SHEET 3. */
    public void table(int table, int... weights) {
        delays(3, weights);
        due.fine("table " + table, judge.table(table, 3, weights.length));
    }

    public void fraction(String call, int got, long ways, long all) {
        long divisor = BigInteger.valueOf(ways).gcd(BigInteger.valueOf(all)).longValueExact();
        due.fraction(call, got, ways / divisor, all / divisor);
    }

    /** A RUN on N COPIES. */
    public Bench run(int n, int w, int r) {
        due.fine("numbers", judge.numbers(n, w, r));
        due.fine("begin", judge.begin());
        return this;
    }

    /** A SHEET of 16 bits with just these numbers. */
    public void delays(int sheet, int... delays) {
        long[] numbers = new long[delays.length];
        for (int i = 0; i < delays.length; i++) {
            numbers[i] = delays[i];
        }
        sheet(sheet, 1, numbers);
    }

    public void write(int number, int... delays) {
        delays(0, delays);
        due.fine("writes", judge.writes(0), number);
    }

    public void read(int number, int reader, int... delays) {
        delays(1, delays);
        due.fine("reads", judge.reads(1, reader), number);
    }

    public void go(int ticks, int tick) {
        due.fine("go " + ticks, judge.go(ticks), tick);
    }

    public void versions(int... versions) {
        for (int copy = 0; copy < versions.length; copy++) {
            due.fine("of(" + copy + ", 0)", judge.of(copy, 0), versions[copy]);
        }
    }

    public void ups(int... ups) {
        for (int copy = 0; copy < ups.length; copy++) {
            due.fine("of(" + copy + ", 1)", judge.of(copy, 1), ups[copy]);
        }
    }

    public void kept(int... kept) {
        for (int copy = 0; copy < kept.length; copy++) {
            due.fine("of(" + copy + ", 2)", judge.of(copy, 2), kept[copy]);
        }
    }

    public void got(int read, int... got) {
        for (int what = 0; what < got.length; what++) {
            due.fine("got(" + read + ", " + what + ")", judge.got(read, what), got[what]);
        }
    }

    public void tells(int... told) {
        for (int what = 0; what < told.length; what++) {
            due.fine("tell(" + what + ")", judge.tell(what), told[what]);
        }
    }
}
