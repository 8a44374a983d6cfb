/**
 * A judge of loose copies: exact chances that a read misses a write, the cheapest numbers that keep
 * a promise, and runs letter by letter. The numbered promises stand in ../shared/DOC.md.
 *
 * <p>Every row is made in a constructor and used again, so no call makes an object.
 */
public final class ReadAge {
    public static final int NONE = -1;

    private static final int FINE = 0;
    private static final int WRONG = 1;
    private static final int MISSING = 2;
    private static final int TOO_SHORT = 3;
    private static final int NO_RUN = 4;
    private static final int UP_OR_DOWN = 5;
    private static final int TOO_MANY = 6;
    private static final int NOT_DONE = 7;
    private static final int NO_SUCH = 8;
    private static final int TOO_GREAT = 9;
    private static final int NO_ACT = 10;

    private static final int COPIES = 5;
    private static final int READERS = 4;
    private static final int ACTS = 40;
    private static final int SHEETS = 4;
    private static final int PLACES = 16;
    private static final int TABLES = 4;
    private static final int DELAYS = 8;
    private static final int MOST_TICKS = 100;
    private static final int MOST_AHEAD = 3;
    private static final int MOST_DELAY = 1000;
    private static final int MOST_GO = 10000;
    private static final int MOST_PRICE = 1000;
    private static final int MOST_BOTTOM = 1000000;

    private final Sheets sheets;
    private final Chances chances;
    private final Odds odds;
    private final Run run;
    private boolean running;
    private int status;

    public ReadAge() {
        sheets = new Sheets();
        chances = new Chances();
        odds = new Odds(chances);
        run = new Run();
        running = false;
        status = FINE;
    }

    public int status() {
        return status;
    }

    public long top() {
        return chances.top;
    }

    public long bottom() {
        return chances.bottom;
    }

    // ---- SHEETS

    public boolean sheet(int sheet, int sort, int many) {
        boolean can = fits(sheet, 0, SHEETS - 1) && fits(sort, 0, 3) && fits(many, 0, PLACES);
        if (!passes(can ? FINE : WRONG)) {
            return false;
        }
        sheets.lay(sheet, sort, many);
        return true;
    }

    public boolean write(int sheet, int place, long v) {
        if (!passes(sheets.lack(sheet, place, 1))) {
            return false;
        }
        sheets.put(sheet, place, v);
        return true;
    }

    public long read(int sheet, int place) {
        if (!passes(sheets.lack(sheet, place, 1))) {
            return NONE;
        }
        return sheets.at(sheet, place);
    }

    public boolean copy(int from, int place, int to, int at, int many) {
        // A place below 0 is no number that can be here, unlike in write() and read().
        int found = place < 0 || at < 0 ? WRONG : FINE;
        if (!passes(first(found, first(sheets.lack(from, place, many), sheets.lack(to, at, many))))) {
            return false;
        }
        sheets.move(from, place, to, at, many);
        return true;
    }

    public boolean drop(int sheet) {
        if (!passes(sheets.lack(sheet, 0, 0))) {
            return false;
        }
        sheets.takeAway(sheet);
        return true;
    }

    public boolean none() {
        return passes(NO_ACT);
    }

    // ---- CHANCES

    public boolean numbers(int n, int w, int r) {
        boolean can = fits(n, 1, COPIES) && fits(w, 1, n) && fits(r, 1, n);
        if (!passes(can ? FINE : WRONG)) {
            return false;
        }
        chances.n = n;
        chances.w = w;
        chances.r = r;
        return true;
    }

    public boolean gap(int ticks) {
        if (!passes(fits(ticks, 0, MOST_TICKS) ? FINE : WRONG)) {
            return false;
        }
        chances.gap = ticks;
        return true;
    }

    public boolean table(int table, int sheet, int many) {
        boolean can = fits(table, 0, TABLES - 1) && fits(many, 1, DELAYS);
        int found = first(can ? FINE : WRONG, sheets.lack(sheet, 0, many));
        if (!passes(found == FINE ? weightsOf(sheet, many) : found)) {
            return false;
        }
        for (int delay = 0; delay < DELAYS; delay++) {
            chances.weigh(table, delay, delay < many ? sheets.at(sheet, delay) : 0);
        }
        return true;
    }

    // No product can be GREAT here: two sums of at most 8, five times over, stay at 2 to the power 30.
    public int takes(boolean write, int ticks) {
        if (!passes(fits(ticks, 0, Chances.SUMS - 1) ? FINE : WRONG)) {
            return NONE;
        }
        return odds.tellTakes(write, ticks);
    }

    public int odds(int t, int ahead, int k) {
        int found = fitsRead(t, ahead, k) ? FINE : WRONG;
        if (!passes(found == FINE ? chances.greatness(chances.n, ahead) : found)) {
            return NONE;
        }
        odds.ask(t, k);
        return odds.tellAge();
    }

    public int choose(int most, int t, int ahead, int k, int top, int bottom, int perCopy, int perWait, int perAsk) {
        boolean can = fits(most, 1, COPIES) && fitsRead(t, ahead, k)
                && fits(bottom, 1, MOST_BOTTOM) && fits(top, 0, bottom)
                && fits(perCopy, 0, MOST_PRICE) && fits(perWait, 0, MOST_PRICE) && fits(perAsk, 0, MOST_PRICE);
        // The greatest N has the greatest product, so it alone is asked.
        if (!passes(can ? chances.greatness(most, ahead) : WRONG)) {
            return NONE;
        }
        odds.ask(t, k);
        int choice = odds.cheapest(most, top, bottom, perCopy, perWait, perAsk);
        passes(choice == NONE ? NO_SUCH : FINE);
        return choice;
    }

    // ---- A RUN

    public boolean begin() {
        running = true;
        run.renew(chances.n, chances.w, chances.r);
        return passes(FINE);
    }

    public boolean mending(boolean on) {
        if (!passes(runLack(true))) {
            return false;
        }
        run.mends = on;
        return true;
    }

    public boolean keep(int reader, boolean on) {
        if (!passes(runLack(fits(reader, 0, READERS - 1)))) {
            return false;
        }
        run.keeps[reader] = on;
        return true;
    }

    public int writes(int sheet) {
        if (!passes(actLack(sheet, true, run.writes.many))) {
            return NONE;
        }
        int write = run.writes.add();
        run.sendAll(Post.WRITE, write, sheets, sheet);
        run.workOff(run.tick);
        return write;
    }

    public int reads(int sheet, int reader) {
        if (!passes(actLack(sheet, fits(reader, 0, READERS - 1), run.reads.many))) {
            return NONE;
        }
        int read = run.reads.add(reader, run.tick);
        run.sendAll(Post.READ, read, sheets, sheet);
        run.workOff(run.tick);
        return read;
    }

    public int go(int ticks) {
        if (!passes(runLack(fits(ticks, 0, MOST_GO)))) {
            return NONE;
        }
        run.workOff(run.tick + ticks);
        return run.tick;
    }

    public boolean down(int copy, boolean losing) {
        if (!passes(copyLack(copy, true))) {
            return false;
        }
        run.copies.fall(copy, losing);
        return true;
    }

    public int up(int copy) {
        if (!passes(copyLack(copy, false))) {
            return NONE;
        }
        return run.copies.rise(copy);
    }

    public int sweep(int a, int b) {
        int found = a == b ? WRONG : FINE;
        if (!passes(first(found, first(copyLack(a, true), copyLack(b, true))))) {
            return NONE;
        }
        return run.copies.level(a, b);
    }

    public int of(int copy, int what) {
        if (!passes(runLack(isCopy(copy) && fits(what, 0, 2)))) {
            return NONE;
        }
        switch (what) {
            case 0:
                return run.copies.versions[copy];
            case 1:
                return run.copies.ups[copy] ? 1 : 0;
            default:
                return run.copies.keptBy(copy);
        }
    }

    public int done(int write) {
        int found = runLack(fits(write, 1, running ? run.writes.many : ACTS));
        if (!passes(found == FINE && !run.writes.isDone(write) ? NOT_DONE : found)) {
            return NONE;
        }
        return run.writes.doneAt[write - 1];
    }

    public int got(int read, int what) {
        int found = runLack(fits(read, 0, running ? run.reads.many - 1 : ACTS - 1) && fits(what, 0, 2));
        if (!passes(found == FINE && !run.reads.isDone(read) ? NOT_DONE : found)) {
            return NONE;
        }
        switch (what) {
            case 0:
                return run.reads.doneAt[read];
            case 1:
                return run.reads.told[read];
            default:
                return run.reads.missed[read];
        }
    }

    public int tell(int what) {
        if (!passes(runLack(fits(what, 0, 6)))) {
            return NONE;
        }
        switch (what) {
            case 0:
                return run.tick;
            case 1:
                return run.writes.many;
            case 2:
                return run.reads.many;
            case 3:
                return run.post.underWay;
            case 4:
                return run.copies.lost;
            case 5:
                return run.raises;
            default:
                return run.misses;
        }
    }

    // ---- what the calls ask first

    private boolean passes(int found) {
        status = found;
        return found == FINE;
    }

    private static boolean fits(long number, long least, long most) {
        return number >= least && number <= most;
    }

    /** Of two findings the one that the order of STATUS puts first. */
    private static int first(int one, int other) {
        if (one == FINE) {
            return other;
        }
        return other == FINE ? one : Math.min(one, other);
    }

    private static boolean fitsRead(int t, int ahead, int k) {
        return fits(t, 0, MOST_TICKS) && fits(ahead, 0, MOST_AHEAD) && fits(k, 0, ahead);
    }

    private int weightsOf(int sheet, int many) {
        long sum = 0;
        for (int place = 0; place < many; place++) {
            long weight = sheets.at(sheet, place);
            if (!fits(weight, 0, DELAYS)) {
                return WRONG;
            }
            sum += weight;
        }
        return fits(sum, 1, DELAYS) ? FINE : WRONG;
    }

    private int runLack(boolean can) {
        if (!can) {
            return WRONG;
        }
        return running ? FINE : NO_RUN;
    }

    private boolean isCopy(int copy) {
        return running ? run.copies.has(copy) : fits(copy, 0, COPIES - 1);
    }

    private int copyLack(int copy, boolean shouldBeUp) {
        int found = runLack(isCopy(copy));
        if (found != FINE) {
            return found;
        }
        return run.copies.ups[copy] == shouldBeUp ? FINE : UP_OR_DOWN;
    }

    /** What hinders a WRITE or READ from beginning, in the order in which writes() asks. */
    private int actLack(int sheet, boolean can, int begun) {
        int found = runLack(can && fits(sheet, 0, SHEETS - 1));
        if (found != FINE) {
            return found;
        }
        int delays = 2 * run.copies.many;
        found = sheets.lack(sheet, 0, delays);
        if (found != FINE) {
            return found;
        }
        for (int place = 0; place < delays; place++) {
            if (!fits(sheets.at(sheet, place), 0, MOST_DELAY)) {
                return WRONG;
            }
        }
        return begun < ACTS ? FINE : TOO_MANY;
    }

    /** The SHEETS, in one row with room for each at its greatest. */
    private static final class Sheets {
        private final long[] values = new long[SHEETS * PLACES];
        private final int[] sorts = new int[SHEETS];
        private final int[] sizes = new int[SHEETS];

        Sheets() {
            for (int sheet = 0; sheet < SHEETS; sheet++) {
                sizes[sheet] = NONE;
            }
        }

        /** WRONG, MISSING or TOO_SHORT, if a SHEET has not so many numbers from a place on. */
        int lack(int sheet, int place, int many) {
            if (!fits(sheet, 0, SHEETS - 1) || many < 0) {
                return WRONG;
            }
            if (sizes[sheet] == NONE) {
                return MISSING;
            }
            return place < 0 || place > sizes[sheet] - many ? TOO_SHORT : FINE;
        }

        void lay(int sheet, int sort, int many) {
            sorts[sheet] = sort;
            sizes[sheet] = many;
            for (int place = 0; place < PLACES; place++) {
                values[sheet * PLACES + place] = 0;
            }
        }

        void takeAway(int sheet) {
            sizes[sheet] = NONE;
        }

        long at(int sheet, int place) {
            return lack(sheet, place, 1) == FINE ? values[sheet * PLACES + place] : 0;
        }

        void put(int sheet, int place, long value) {
            values[sheet * PLACES + place] = cut(sorts[sheet], value);
        }

        // All numbers are moved ahead of the cutting, as the two stretches may lie over one another.
        void move(int from, int place, int to, int at, int many) {
            int target = to * PLACES + at;
            System.arraycopy(values, from * PLACES + place, values, target, many);
            for (int i = target; i < target + many; i++) {
                values[i] = cut(sorts[to], values[i]);
            }
        }

        private static long cut(int sort, long value) {
            switch (sort) {
                case 0:
                    return (byte) value;
                case 1:
                    return (short) value;
                case 2:
                    return (int) value;
                default:
                    return value;
            }
        }
    }

    /** N, WAITS, ASKS, GAP, the TABLES, and the FRACTION that was told latest. */
    private static final class Chances {
        /** The ticks that two delays can take together: 0 to 14. */
        static final int SUMS = 2 * DELAYS - 1;
        private static final long GREAT = 1L << 62;

        private final long[] weights = new long[TABLES * DELAYS];
        private final long[] sums = new long[TABLES];
        int n = 3;
        int w = 2;
        int r = 2;
        int gap = 1;
        long top = 0;
        long bottom = 1;

        Chances() {
            for (int table = 0; table < TABLES; table++) {
                weigh(table, 0, 1);
            }
        }

        void weigh(int table, int delay, long weight) {
            int place = table * DELAYS + delay;
            sums[table] += weight - weights[place];
            weights[place] = weight;
        }

        long weight(int table, int delay) {
            return delay >= 0 && delay < DELAYS ? weights[table * DELAYS + delay] : 0;
        }

        long sum(int table) {
            return sums[table];
        }

        /** The weight of the letters of a WRITE that need more ticks than these. */
        long above(int ticks) {
            long weight = 0;
            for (int delay = DELAYS - 1; delay > ticks && delay >= 0; delay--) {
                weight += weights[delay];
            }
            return weight;
        }

        /** A row's place s comes to hold the weight of the way to a COPY and back in s ticks. */
        void spread(int there, int back, long[] row) {
            for (int ticks = 0; ticks < SUMS && ticks < row.length; ticks++) {
                long weight = 0;
                for (int delay = 0; delay < DELAYS; delay++) {
                    weight += weight(there, delay) * weight(back, ticks - delay);
                }
                row[ticks] = weight;
            }
        }

        /** All weights together that one COPY takes part with, with so many WRITES ahead. */
        long ofCopy(int ahead) {
            return power(sums[0], ahead + 1) * sums[1] * sums[2] * sums[3];
        }

        int greatness(int copies, int ahead) {
            long each = ofCopy(ahead);
            long product = 1;
            for (int copy = 0; copy < copies; copy++) {
                if (each < 1 || product > (GREAT - 1) / each) {
                    return TOO_GREAT;
                }
                product *= each;
            }
            return FINE;
        }

        /** Tells the FRACTION of ways by all ways: whether it is above 0. */
        int tellFraction(long ways, long all) {
            long divisor = commonDivisor(ways, all);
            if (divisor < 1) {
                return NONE;
            }
            top = ways / divisor;
            bottom = all / divisor;
            return ways > 0 ? 1 : 0;
        }

        private static long commonDivisor(long one, long other) {
            long a = one;
            long b = other;
            // Two steps halve the greater one at least: 200 are more than 63 bits can need.
            for (int step = 0; step < 200 && b != 0; step++) {
                long rest = a % b;
                a = b;
                b = rest;
            }
            return a;
        }

        static long power(long base, int times) {
            long product = 1;
            for (int i = 0; i < times; i++) {
                product *= base;
            }
            return product;
        }
    }

    /**
     * Counts ways, each with its weight. A READ can miss only by COPIES whose letter comes behind the
     * tick d at which the WRITE is DONE, so their word is not among the w; so for each d the WRITE's
     * end depends on the other N - r COPIES alone, and on nothing of the answers' ticks. Products may
     * wrap around on the way: all ways together are below 2 to the power 62, so the end is exact.
     */
    private static final class Odds {
        /** The ticks of the WRITE's end at which a letter of it can still be on its way. */
        private static final int LATE = DELAYS - 1;
        private static final int SIDE = COPIES + 1;
        private static final long[] PICKS = {
            1, 0, 0, 0, 0, 0,
            1, 1, 0, 0, 0, 0,
            1, 2, 1, 0, 0, 0,
            1, 3, 3, 1, 0, 0,
            1, 4, 6, 4, 1, 0,
            1, 5, 10, 10, 5, 1
        };

        private final Chances chances;
        private final long[] ends = new long[Chances.SUMS];
        private final long[] answers = new long[Chances.SUMS];
        private final long[] late = new long[LATE];
        private final long[] stale = new long[LATE * SIDE];
        private final long[] sooner = new long[SIDE];
        private final long[] now = new long[SIDE];
        private final long[] others = new long[SIDE];
        private final long[] later = new long[SIDE];
        private int behind = 0;
        private int aged = 0;
        /** The N that the rows are made for, 0 if for none. */
        private int ready = 0;

        Odds(Chances chances) {
            this.chances = chances;
        }

        int tellTakes(boolean write, int ticks) {
            int there = write ? 0 : 2;
            int needed = write ? chances.w : chances.r;
            chances.spread(there, there + 1, ends);
            long all = chances.sum(there) * chances.sum(there + 1);
            long ways = endsAt(chances.n, needed, ticks, all);
            return chances.tellFraction(ways, Chances.power(all, chances.n));
        }

        /** From here on READS behind t ticks are asked, for an AGE above k. */
        void ask(int t, int k) {
            behind = t;
            aged = k;
            ready = 0;
        }

        int tellAge() {
            long ways = waysAbove(chances.n, chances.w, chances.r);
            return chances.tellFraction(ways, Chances.power(chances.ofCopy(aged), chances.n));
        }

        private void prepare(int n) {
            chances.spread(0, 1, ends);
            chances.spread(2, 3, answers);
            for (int ticks = 0; ticks < LATE; ticks++) {
                late[ticks] = 1;
                for (int older = 0; older <= aged; older++) {
                    late[ticks] *= chances.above(behind + ticks + older * chances.gap);
                }
            }
            for (int end = 0; end < LATE; end++) {
                prepareEnd(end, n);
            }
            ready = n;
        }

        private void prepareEnd(int end, int n) {
            long staleBefore = 0;
            long anyLater = chances.sum(2) * chances.sum(3);
            for (int r = 1; r < n; r++) {
                stale[place(end, r)] = 0;
            }
            for (int tick = 0; tick < Chances.SUMS; tick++) {
                long staleNow = staleAnswers(end, tick);
                anyLater -= answers[tick];
                if (staleNow != 0) {
                    fillPowers(staleBefore, sooner);
                    fillPowers(staleNow, now);
                    fillPowers(answers[tick], others);
                    fillPowers(anyLater, later);
                    for (int r = 1; r < n; r++) {
                        stale[place(end, r)] += staleReads(n, r);
                    }
                }
                staleBefore += staleNow;
            }
        }

        /** The weight of one COPY's answers at a tick that have none of the WRITES asked for. */
        private long staleAnswers(int end, int tick) {
            long weight = 0;
            for (int delay = 0; end + delay < LATE; delay++) {
                weight += chances.weight(2, delay) * chances.weight(3, tick - delay) * late[end + delay];
            }
            return weight * chances.sum(1);
        }

        /**
         * Ways in which the r-th answer comes at the tick of the rows of powers and all r are stale:
         * a of them come sooner, and of those of this tick the r - a at the lesser COPIES count, while
         * other ones of this tick, and all later ones, may be anything.
         */
        private long staleReads(int n, int r) {
            long ways = 0;
            for (int a = 0; a < r; a++) {
                long rest = 0;
                for (int other = 0; other <= n - r; other++) {
                    rest += picks(n - a, r - a + other) * others[other] * later[n - r - other];
                }
                ways += picks(n, a) * sooner[a] * now[r - a] * rest;
            }
            return ways;
        }

        /** Ways, of all, in which the AGE of a READ is above the k that is asked. */
        long waysAbove(int n, int w, int r) {
            if (w > n - r) {
                return 0;
            }
            if (ready != n) {
                prepare(n);
            }
            long all = chances.sum(0) * chances.sum(1);
            long ways = 0;
            for (int end = 0; end < LATE; end++) {
                long missed = stale[place(end, r)];
                if (missed != 0) {
                    ways += missed * endsAt(n - r, w, end, all);
                }
            }
            // The letters of the older WRITES to the other COPIES may come as they like.
            return ways * Chances.power(chances.sum(0), aged * (n - r));
        }

        /**
         * The code of the CHOICE, or NONE. Of like prices the first one found stays: it has the least N,
         * then w, then r. With prices of 0 or more that is always 111, as one COPY misses nothing and
         * costs least; so the rows are made ready only where a price asks for them.
         */
        int cheapest(int most, int top, int bottom, int perCopy, int perWait, int perAsk) {
            int best = NONE;
            int least = 0;
            for (int n = 1; n <= most; n++) {
                long all = Chances.power(chances.ofCopy(aged), n);
                for (int w = 1; w <= n; w++) {
                    for (int r = 1; r <= n; r++) {
                        int price = n * perCopy + w * perWait + r * perAsk;
                        if ((best == NONE || price < least) && isAtMost(waysAbove(n, w, r), all, top, bottom)) {
                            best = 100 * n + 10 * w + r;
                            least = price;
                        }
                    }
                }
            }
            return best;
        }

        /** Whether ways by all is not above top by bottom; the products are taken in two parts of 31 bits. */
        private static boolean isAtMost(long ways, long all, long top, long bottom) {
            long mask = (1L << 31) - 1;
            long waysLow = (ways & mask) * bottom;
            long allLow = (all & mask) * top;
            long waysHigh = (ways >>> 31) * bottom + (waysLow >>> 31);
            long allHigh = (all >>> 31) * top + (allLow >>> 31);
            return waysHigh < allHigh || (waysHigh == allHigh && (waysLow & mask) <= (allLow & mask));
        }

        /** Ways in which the needed-th of so many COPIES ends at just this tick, by the row of ends. */
        private long endsAt(int copies, int needed, int tick, long all) {
            long before = 0;
            for (int i = 0; i < tick && i < ends.length; i++) {
                before += ends[i];
            }
            long by = before + (tick >= 0 && tick < ends.length ? ends[tick] : 0);
            return atLeast(copies, needed, by, all - by) - atLeast(copies, needed, before, all - before);
        }

        private static long atLeast(int copies, int needed, long in, long out) {
            long ways = 0;
            for (int many = needed; many <= copies; many++) {
                ways += picks(copies, many) * Chances.power(in, many) * Chances.power(out, copies - many);
            }
            return ways;
        }

        private static long picks(int of, int many) {
            return of >= 0 && of < SIDE && many >= 0 && many < SIDE ? PICKS[of * SIDE + many] : 0;
        }

        private static int place(int end, int r) {
            return end * SIDE + r;
        }

        private static void fillPowers(long base, long[] row) {
            long product = 1;
            for (int i = 0; i < row.length; i++) {
                row[i] = product;
                product *= base;
            }
        }
    }

    /** The COPIES of a RUN: what each has, and what it keeps for others. */
    private static final class Copies {
        final int[] versions = new int[COPIES];
        final boolean[] ups = new boolean[COPIES];
        private final int[] handed = new int[COPIES * COPIES];
        int many = 0;
        int lost = 0;

        void renew(int n) {
            many = Math.min(n, COPIES);
            lost = 0;
            for (int copy = 0; copy < COPIES; copy++) {
                versions[copy] = 0;
                ups[copy] = true;
                forget(copy);
            }
        }

        boolean has(int copy) {
            return copy >= 0 && copy < many;
        }

        private void forget(int keeper) {
            for (int copy = 0; copy < COPIES; copy++) {
                handed[keeper * COPIES + copy] = 0;
            }
        }

        /** A letter with a VERSION comes to a COPY: whether the COPY itself took it. */
        boolean take(int copy, int version) {
            if (ups[copy]) {
                versions[copy] = Math.max(versions[copy], version);
                return true;
            }
            int keeper = leastUp();
            if (keeper == NONE) {
                lost++;
            } else {
                int place = keeper * COPIES + copy;
                handed[place] = Math.max(handed[place], version);
            }
            return false;
        }

        private int leastUp() {
            for (int copy = 0; copy < many; copy++) {
                if (ups[copy]) {
                    return copy;
                }
            }
            return NONE;
        }

        int keptBy(int keeper) {
            int kept = 0;
            for (int copy = 0; copy < many; copy++) {
                if (handed[keeper * COPIES + copy] > 0) {
                    kept++;
                }
            }
            return kept;
        }

        void fall(int copy, boolean losing) {
            ups[copy] = false;
            if (losing) {
                lost += keptBy(copy);
                versions[copy] = 0;
                forget(copy);
            }
        }

        /** A COPY comes UP: how many HANDED ones were given. */
        int rise(int copy) {
            int given = 0;
            for (int other = 0; other < many; other++) {
                given += give(other, copy);
            }
            ups[copy] = true;
            for (int other = 0; other < many; other++) {
                if (ups[other]) {
                    given += give(copy, other);
                }
            }
            return given;
        }

        private int give(int keeper, int copy) {
            int place = keeper * COPIES + copy;
            if (handed[place] == 0 || !ups[keeper]) {
                return 0;
            }
            versions[copy] = Math.max(versions[copy], handed[place]);
            handed[place] = 0;
            return 1;
        }

        /** SWEEP of two COPIES: 1 if they differed. */
        int level(int a, int b) {
            if (versions[a] == versions[b]) {
                return 0;
            }
            int greater = Math.max(versions[a], versions[b]);
            versions[a] = greater;
            versions[b] = greater;
            return 1;
        }
    }

    /** LETTERS under way, in a chain by their ticks and, of one tick, as they were sent. */
    private static final class Post {
        static final int WRITE = 0;
        static final int WORD = 1;
        static final int READ = 2;
        static final int ANSWER = 3;
        static final int MEND = 4;
        /** Both ways of all acts to all COPIES, and one mending letter to each COPY for each READ. */
        static final int MOST = 5 * ACTS * COPIES;

        private final int[] ticks = new int[MOST];
        private final int[] nexts = new int[MOST];
        /** Each LETTER's WRITE or READ; a mending one's VERSION. */
        final int[] numbers = new int[MOST];
        final int[] kinds = new int[MOST];
        final int[] copies = new int[MOST];
        /** The delay of the way back; an answer's VERSION. */
        final int[] extras = new int[MOST];
        private int sent = 0;
        private int head = NONE;
        int underWay = 0;

        void renew() {
            sent = 0;
            head = NONE;
            underWay = 0;
        }

        void send(int tick, int kind, int number, int copy, int extra) {
            if (sent >= MOST) {
                return;
            }
            int letter = sent++;
            underWay++;
            ticks[letter] = tick;
            kinds[letter] = kind;
            numbers[letter] = number;
            copies[letter] = copy;
            extras[letter] = extra;
            link(letter);
        }

        private void link(int letter) {
            int before = NONE;
            int behind = head;
            for (int i = 0; i < MOST && isLetter(behind) && ticks[behind] <= ticks[letter]; i++) {
                before = behind;
                behind = nexts[behind];
            }
            nexts[letter] = behind;
            if (isLetter(before)) {
                nexts[before] = letter;
            } else {
                head = letter;
            }
        }

        private static boolean isLetter(int letter) {
            return letter >= 0 && letter < MOST;
        }

        /** Takes out the next LETTER that is due by a tick, or NONE. */
        int takeDue(int tick) {
            if (!isLetter(head) || ticks[head] > tick) {
                return NONE;
            }
            int letter = head;
            head = nexts[letter];
            underWay--;
            return letter;
        }

        int tickOf(int letter) {
            return ticks[letter];
        }
    }

    /** The WRITES of a RUN; that of number v stands in place v - 1. */
    private static final class Writes {
        final int[] doneAt = new int[ACTS];
        private final int[] words = new int[ACTS];
        int many = 0;

        int add() {
            words[many] = 0;
            doneAt[many] = NONE;
            many++;
            return many;
        }

        boolean isDone(int write) {
            return has(write) && doneAt[write - 1] != NONE;
        }

        private boolean has(int write) {
            return write >= 1 && write <= many;
        }

        void hear(int write, int needed, int tick) {
            if (!has(write)) {
                return;
            }
            int place = write - 1;
            words[place]++;
            if (words[place] == needed) {
                doneAt[place] = tick;
            }
        }

        /** How many WRITES that were DONE at ticks before this one are greater than a VERSION. */
        int doneBefore(int tick, int version) {
            int found = 0;
            for (int write = version + 1; write <= many; write++) {
                if (isDone(write) && doneAt[write - 1] < tick) {
                    found++;
                }
            }
            return found;
        }
    }

    /** The READS of a RUN. */
    private static final class Reads {
        final int[] readers = new int[ACTS];
        final int[] begunAt = new int[ACTS];
        final int[] greatest = new int[ACTS];
        final int[] doneAt = new int[ACTS];
        final int[] told = new int[ACTS];
        final int[] missed = new int[ACTS];
        private final int[] answers = new int[ACTS];
        private final int[] heard = new int[ACTS * COPIES];
        int many = 0;

        int add(int reader, int tick) {
            int read = many++;
            readers[read] = reader;
            begunAt[read] = tick;
            greatest[read] = 0;
            doneAt[read] = NONE;
            answers[read] = 0;
            for (int copy = 0; copy < COPIES; copy++) {
                heard[read * COPIES + copy] = NONE;
            }
            return read;
        }

        boolean isDone(int read) {
            return has(read) && doneAt[read] != NONE;
        }

        private boolean has(int read) {
            return read >= 0 && read < many;
        }

        /** An answer comes: whether it is the last one that the READ needs. */
        boolean hear(int read, int copy, int version, int needed) {
            if (!has(read) || doneAt[read] != NONE) {
                return false;
            }
            heard[read * COPIES + copy] = version;
            greatest[read] = Math.max(greatest[read], version);
            answers[read]++;
            return answers[read] == needed;
        }

        boolean answeredLesser(int read, int copy) {
            int version = heard[read * COPIES + copy];
            return version != NONE && version < greatest[read];
        }
    }

    /** A RUN, letter by letter. */
    private static final class Run {
        final Copies copies = new Copies();
        final Post post = new Post();
        final Writes writes = new Writes();
        final Reads reads = new Reads();
        final boolean[] keeps = new boolean[READERS];
        private final int[] seen = new int[READERS];
        private int w = 0;
        private int r = 0;
        int tick = 0;
        boolean mends = false;
        int raises = 0;
        int misses = 0;

        void renew(int n, int waits, int asks) {
            copies.renew(n);
            post.renew();
            writes.many = 0;
            reads.many = 0;
            for (int reader = 0; reader < READERS; reader++) {
                keeps[reader] = false;
                seen[reader] = 0;
            }
            w = waits;
            r = asks;
            tick = 0;
            mends = false;
            raises = 0;
            misses = 0;
        }

        void sendAll(int kind, int number, Sheets sheets, int sheet) {
            for (int copy = 0; copy < copies.many; copy++) {
                int delay = (int) sheets.at(sheet, copy);
                int back = (int) sheets.at(sheet, copies.many + copy);
                post.send(tick + delay, kind, number, copy, back);
            }
        }

        /** Ticks go by up to one, and all LETTERS that are due by it come. */
        void workOff(int until) {
            int letter = post.takeDue(until);
            for (int i = 0; i < Post.MOST && letter != NONE; i++) {
                tick = post.tickOf(letter);
                come(letter);
                letter = post.takeDue(until);
            }
            tick = until;
        }

        private void come(int letter) {
            int number = post.numbers[letter];
            int copy = post.copies[letter];
            int extra = post.extras[letter];
            if (!copies.has(copy)) {
                return;
            }
            switch (post.kinds[letter]) {
                case Post.WRITE:
                    if (copies.take(copy, number)) {
                        post.send(tick + extra, Post.WORD, number, copy, 0);
                    }
                    break;
                case Post.WORD:
                    writes.hear(number, w, tick);
                    break;
                case Post.READ:
                    if (copies.ups[copy]) {
                        post.send(tick + extra, Post.ANSWER, number, copy, copies.versions[copy]);
                    }
                    break;
                case Post.ANSWER:
                    if (reads.hear(number, copy, extra, r)) {
                        finish(number);
                        if (mends) {
                            mend(number);
                        }
                    }
                    break;
                default:
                    copies.take(copy, number);
                    break;
            }
        }

        private void finish(int read) {
            int version = reads.greatest[read];
            int reader = reads.readers[read];
            reads.doneAt[read] = tick;
            reads.missed[read] = writes.doneBefore(reads.begunAt[read], version);
            if (reads.missed[read] > 0) {
                misses++;
            }
            if (keeps[reader] && version < seen[reader]) {
                raises++;
                version = seen[reader];
            }
            seen[reader] = Math.max(seen[reader], version);
            reads.told[read] = version;
        }

        // What the answers had is sent, not what a RAISE tells: it is the READ's own VERSION.
        private void mend(int read) {
            for (int copy = 0; copy < copies.many; copy++) {
                if (reads.answeredLesser(read, copy)) {
                    post.send(tick + 1, Post.MEND, reads.greatest[read], copy, 0);
                }
            }
        }
    }
}
