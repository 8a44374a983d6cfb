import java.math.BigInteger;
import java.util.ArrayList;
import java.util.Comparator;
import java.util.List;

/**
 * The document once more, written another way than the program and without care for speed: chances by
 * walking over the COPIES one by one with all that is counted, runs by a list of letters.
 */
public final class Model {
    /** A call that is refused, with its STATUS. */
    private static final class Refused extends RuntimeException {
        private static final long serialVersionUID = 1L;
        final int status;

        Refused(int status) {
            super(null, null, false, false);
            this.status = status;
        }
    }

    private interface Answer {
        long get();
    }

    private static final class Letter {
        int due;
        int serial;
        char kind;
        int number;
        int copy;
        int version;
        int back;
    }

    private static final class Write {
        int words = 0;
        int done = -1;
    }

    private static final class Read {
        int reader;
        int begun;
        int done = -1;
        int told;
        int missed;
        List<int[]> answers = new ArrayList<>();
    }

    private static final class Copy {
        boolean up = true;
        int version = 0;
        int[] keeps = new int[5];
    }

    public int status = 0;
    public long top = 0;
    public long bottom = 1;
    private int n = 3;
    private int w = 2;
    private int r = 2;
    private int gap = 1;
    private final long[][] tables = new long[4][8];
    private final long[][] sheets = new long[4][];
    private final int[] sorts = new int[4];

    private List<Copy> copies = null;
    private int runW;
    private int runR;
    private int tick;
    private int serial;
    private int lost;
    private int raises;
    private boolean mends;
    private boolean[] kept;
    private int[] seen;
    private List<Write> writes;
    private List<Read> reads;
    private List<Letter> letters;

    public Model() {
        for (long[] table : tables) {
            table[0] = 1;
        }
    }

    private long call(long none, Answer answer) {
        try {
            long got = answer.get();
            status = 0;
            return got;
        } catch (Refused refused) {
            status = refused.status;
            return none;
        }
    }

    private static void ask(boolean holds, int status) {
        if (!holds) {
            throw new Refused(status);
        }
    }

    private static void ask(long x, long least, long most) {
        ask(x >= least && x <= most, 1);
    }

    // ---- SHEETS

    public long sheet(int sheet, int sort, int many) {
        return call(0, () -> {
            ask(sheet, 0, 3);
            ask(sort, 0, 3);
            ask(many, 0, 16);
            sheets[sheet] = new long[many];
            sorts[sheet] = sort;
            return 1;
        });
    }

    private long cut(int sheet, long v) {
        int bits = 64 - (8 << sorts[sheet]);
        return v << bits >> bits;
    }

    public long write(int sheet, int place, long v) {
        return call(0, () -> {
            place(sheet, place);
            sheets[sheet][place] = cut(sheet, v);
            return 1;
        });
    }

    public long read(int sheet, int place) {
        return call(-1, () -> {
            place(sheet, place);
            return sheets[sheet][place];
        });
    }

    private void place(int sheet, int place) {
        ask(sheet, 0, 3);
        ask(sheets[sheet] != null, 2);
        ask(place >= 0 && place < sheets[sheet].length, 3);
    }

    public long copy(int from, int place, int to, int at, int many) {
        return call(0, () -> {
            ask(from, 0, 3);
            ask(to, 0, 3);
            for (int told : new int[] {place, at, many}) {
                ask(told, 0, Integer.MAX_VALUE);
            }
            ask(sheets[from] != null && sheets[to] != null, 2);
            ask((long) place + many <= sheets[from].length, 3);
            ask((long) at + many <= sheets[to].length, 3);
            long[] held = sheets[from].clone();
            for (int i = 0; i < many; i++) {
                sheets[to][at + i] = cut(to, held[place + i]);
            }
            return 1;
        });
    }

    public long drop(int sheet) {
        return call(0, () -> {
            ask(sheet, 0, 3);
            ask(sheets[sheet] != null, 2);
            sheets[sheet] = null;
            return 1;
        });
    }

    public long none() {
        return call(0, () -> {
            throw new Refused(10);
        });
    }

    // ---- CHANCES

    public long numbers(int n, int w, int r) {
        return call(0, () -> {
            ask(n, 1, 5);
            ask(w, 1, n);
            ask(r, 1, n);
            this.n = n;
            this.w = w;
            this.r = r;
            return 1;
        });
    }

    public long gap(int ticks) {
        return call(0, () -> {
            ask(ticks, 0, 100);
            gap = ticks;
            return 1;
        });
    }

    public long table(int table, int sheet, int many) {
        return call(0, () -> {
            ask(table, 0, 3);
            ask(sheet, 0, 3);
            ask(many, 1, 8);
            ask(sheets[sheet] != null, 2);
            ask(sheets[sheet].length >= many, 3);
            BigInteger sum = BigInteger.ZERO;
            for (int i = 0; i < many; i++) {
                ask(sheets[sheet][i] >= 0, 1);
                sum = sum.add(BigInteger.valueOf(sheets[sheet][i]));
            }
            ask(sum.compareTo(BigInteger.ONE) >= 0 && sum.compareTo(BigInteger.valueOf(8)) <= 0, 1);
            for (int i = 0; i < 8; i++) {
                tables[table][i] = i < many ? sheets[sheet][i] : 0;
            }
            return 1;
        });
    }

    private long sum(int table) {
        long sum = 0;
        for (long weight : tables[table]) {
            sum += weight;
        }
        return sum;
    }

    private void askGreat(int n, int ahead) {
        BigInteger product = BigInteger.ONE;
        for (int copy = 0; copy < n; copy++) {
            for (int table = 0; table < 4; table++) {
                product = product.multiply(BigInteger.valueOf(sum(table)));
            }
            for (int i = 0; i < ahead; i++) {
                product = product.multiply(BigInteger.valueOf(sum(0)));
            }
        }
        ask(product.bitLength() <= 62, 9);
    }

    private long fraction(BigInteger ways, BigInteger all) {
        BigInteger divisor = ways.gcd(all);
        top = ways.divide(divisor).longValueExact();
        bottom = all.divide(divisor).longValueExact();
        return ways.signum();
    }

    public long takes(boolean write, int ticks) {
        return call(-1, () -> {
            ask(ticks, 0, 14);
            int table = write ? 0 : 2;
            int needed = write ? w : r;
            // [COPIES that came sooner][COPIES that come at the tick]
            long[][] ways = new long[n + 1][n + 1];
            ways[0][0] = 1;
            for (int copy = 0; copy < n; copy++) {
                long[][] next = new long[n + 1][n + 1];
                for (int there = 0; there < 8; there++) {
                    for (int back = 0; back < 8; back++) {
                        long weight = tables[table][there] * tables[table + 1][back];
                        int s = there + back < ticks ? 1 : 0;
                        int e = there + back == ticks ? 1 : 0;
                        for (int a = 0; a + s <= n; a++) {
                            for (int b = 0; b + e <= n; b++) {
                                next[a + s][b + e] += ways[a][b] * weight;
                            }
                        }
                    }
                }
                ways = next;
            }
            long found = 0;
            for (int a = 0; a < needed; a++) {
                for (int b = needed - a; b <= n; b++) {
                    found += ways[a][b];
                }
            }
            return fraction(BigInteger.valueOf(found),
                    BigInteger.valueOf(sum(table) * sum(table + 1)).pow(n));
        });
    }

    private static void askRead(int t, int ahead, int k) {
        ask(t, 0, 100);
        ask(ahead, 0, 3);
        ask(k, 0, ahead);
    }

    public long odds(int t, int ahead, int k) {
        return call(-1, () -> {
            askRead(t, ahead, k);
            askGreat(n, ahead);
            return fraction(BigInteger.valueOf(aged(n, t, k)[w][r]), all(n, k));
        });
    }

    private BigInteger all(int n, int k) {
        BigInteger each = BigInteger.valueOf(sum(0)).pow(k + 1);
        for (int table = 1; table < 4; table++) {
            each = each.multiply(BigInteger.valueOf(sum(table)));
        }
        return each.pow(n);
    }

    /** The weight of the older WRITES' letters that are not there at a tick, or of all of them. */
    private long olders(int k, long tick, boolean late) {
        long product = 1;
        for (int j = 1; j <= k; j++) {
            long weight = 0;
            for (int delay = 0; delay < 8; delay++) {
                weight += !late || delay - (long) j * gap > tick ? tables[0][delay] : 0;
            }
            product *= weight;
        }
        return product;
    }

    /** For all w and r the ways in which the READ's AGE is above k. */
    private long[][] aged(int n, int t, int k) {
        long[][] ways = new long[n + 1][n + 1];
        for (int d = 0; d < 15; d++) {
            // [answer's tick][0 fresh, word sooner than d; 1 fresh, at d; 2 fresh, later; 3 to 5 not fresh]
            long[][] copy = new long[15][6];
            for (int a = 0; a < 8; a++) {
                for (int b = 0; b < 8; b++) {
                    for (int c = 0; c < 8; c++) {
                        for (int e = 0; e < 8; e++) {
                            long weight = tables[0][a] * tables[1][b] * tables[2][c] * tables[3][e];
                            if (weight == 0) {
                                continue;
                            }
                            int word = Integer.compare(a + b, d) + 1;
                            long all = olders(k, 0, false);
                            long late = a <= d + t + c ? 0 : olders(k, d + t + c, true);
                            copy[c + e][word] += weight * (all - late);
                            copy[c + e][3 + word] += weight * late;
                        }
                    }
                }
            }
            for (int u = 0; u < 15; u++) {
                for (int f = 0; f < n; f++) {
                    addFirstFresh(n, copy, u, f, ways);
                }
            }
        }
        return ways;
    }

    /** The first fresh answer comes at tick u from COPY f: as many as come sooner are all the r can have. */
    private static void addFirstFresh(int n, long[][] copy, int u, int f, long[][] ways) {
        long[][][] now = new long[n + 1][n + 1][n + 1];
        now[0][0][0] = 1;
        for (int i = 0; i < n; i++) {
            // [word][whether it counts as a stale answer ahead of the first fresh one]
            long[][] weights = new long[3][2];
            for (int tick = 0; tick < 15; tick++) {
                for (int kind = 0; kind < 6; kind++) {
                    boolean sooner = tick < u || tick == u && i < f;
                    boolean fresh = kind < 3;
                    if (i == f ? tick == u && fresh : !(sooner && fresh)) {
                        weights[kind % 3][sooner ? 1 : 0] += copy[tick][kind];
                    }
                }
            }
            long[][][] next = new long[n + 1][n + 1][n + 1];
            for (int p = 0; p <= i; p++) {
                for (int q = 0; q + p <= i; q++) {
                    for (int s = 0; s <= i; s++) {
                        for (int z = 0; z < 2 && now[p][q][s] != 0; z++) {
                            next[p + 1][q][s + z] += now[p][q][s] * weights[0][z];
                            next[p][q + 1][s + z] += now[p][q][s] * weights[1][z];
                            next[p][q][s + z] += now[p][q][s] * weights[2][z];
                        }
                    }
                }
            }
            now = next;
        }
        for (int w = 1; w <= n; w++) {
            for (int r = 1; r <= n; r++) {
                for (int p = 0; p < w; p++) {
                    for (int q = w - p; q <= n; q++) {
                        for (int s = r; s <= n; s++) {
                            ways[w][r] += now[p][q][s];
                        }
                    }
                }
            }
        }
    }

    public long choose(int most, int t, int ahead, int k, int top, int bottom, int perCopy, int perWait, int perAsk) {
        return call(-1, () -> {
            ask(most, 1, 5);
            askRead(t, ahead, k);
            ask(top, 0, Integer.MAX_VALUE);
            ask(bottom, 1, 1000000);
            ask(top <= bottom, 1);
            ask(perCopy, 0, 1000);
            ask(perWait, 0, 1000);
            ask(perAsk, 0, 1000);
            for (int n = 1; n <= most; n++) {
                askGreat(n, ahead);
            }
            List<int[]> keeping = new ArrayList<>();
            for (int n = 1; n <= most; n++) {
                long[][] ways = aged(n, t, k);
                for (int w = 1; w <= n; w++) {
                    for (int r = 1; r <= n; r++) {
                        BigInteger chance = BigInteger.valueOf(ways[w][r]).multiply(BigInteger.valueOf(bottom));
                        if (chance.compareTo(all(n, k).multiply(BigInteger.valueOf(top))) <= 0) {
                            keeping.add(new int[] {n * perCopy + w * perWait + r * perAsk, n, w, r});
                        }
                    }
                }
            }
            ask(!keeping.isEmpty(), 8);
            Comparator<int[]> order = Comparator.comparingInt(c -> c[0]);
            for (int i = 1; i < 4; i++) {
                int at = i;
                order = order.thenComparingInt(c -> c[at]);
            }
            keeping.sort(order);
            int[] choice = keeping.get(0);
            return Long.parseLong("" + choice[1] + choice[2] + choice[3]);
        });
    }

    // ---- A RUN

    public long begin() {
        return call(0, () -> {
            copies = new ArrayList<>();
            for (int i = 0; i < n; i++) {
                copies.add(new Copy());
            }
            runW = w;
            runR = r;
            tick = 0;
            serial = 0;
            lost = 0;
            raises = 0;
            mends = false;
            kept = new boolean[4];
            seen = new int[4];
            writes = new ArrayList<>();
            reads = new ArrayList<>();
            letters = new ArrayList<>();
            return 1;
        });
    }

    private void askRun() {
        ask(copies != null, 4);
    }

    public long mending(boolean on) {
        return call(0, () -> {
            askRun();
            mends = on;
            return 1;
        });
    }

    public long keep(int reader, boolean on) {
        return call(0, () -> {
            ask(reader, 0, 3);
            askRun();
            kept[reader] = on;
            return 1;
        });
    }

    private void askAct(int sheet, int begun) {
        askRun();
        ask(sheets[sheet] != null, 2);
        ask(sheets[sheet].length >= 2 * copies.size(), 3);
        for (int i = 0; i < 2 * copies.size(); i++) {
            ask(sheets[sheet][i], 0, 1000);
        }
        ask(begun < 40, 6);
    }

    public long writes(int sheet) {
        return call(-1, () -> {
            ask(sheet, 0, 3);
            askAct(sheet, writes == null ? 0 : writes.size());
            writes.add(new Write());
            for (int i = 0; i < copies.size(); i++) {
                send('w', (int) sheets[sheet][i], writes.size(), i, writes.size(), (int) sheets[sheet][copies.size() + i]);
            }
            work();
            return writes.size();
        });
    }

    public long reads(int sheet, int reader) {
        return call(-1, () -> {
            ask(sheet, 0, 3);
            ask(reader, 0, 3);
            askAct(sheet, reads == null ? 0 : reads.size());
            Read read = new Read();
            read.reader = reader;
            read.begun = tick;
            reads.add(read);
            for (int i = 0; i < copies.size(); i++) {
                send('r', (int) sheets[sheet][i], reads.size() - 1, i, 0, (int) sheets[sheet][copies.size() + i]);
            }
            work();
            return reads.size() - 1;
        });
    }

    private void send(char kind, int delay, int number, int copy, int version, int back) {
        Letter letter = new Letter();
        letter.due = tick + delay;
        letter.serial = serial++;
        letter.kind = kind;
        letter.number = number;
        letter.copy = copy;
        letter.version = version;
        letter.back = back;
        letters.add(letter);
    }

    /** Works off what is due at this tick, the one sent first ahead. */
    private void work() {
        while (true) {
            Letter due = null;
            for (Letter letter : letters) {
                if (letter.due == tick && (due == null || letter.serial < due.serial)) {
                    due = letter;
                }
            }
            if (due == null) {
                return;
            }
            letters.remove(due);
            come(due);
        }
    }

    private void come(Letter letter) {
        Copy copy = copies.get(letter.copy);
        if (letter.kind == 'w' || letter.kind == 'm') {
            if (!copy.up) {
                hand(letter);
                return;
            }
            copy.version = Math.max(copy.version, letter.version);
            if (letter.kind == 'w') {
                send('d', letter.back, letter.number, letter.copy, 0, 0);
            }
        } else if (letter.kind == 'd') {
            Write write = writes.get(letter.number - 1);
            write.words++;
            if (write.words == runW) {
                write.done = tick;
            }
        } else if (letter.kind == 'r') {
            if (copy.up) {
                send('a', letter.back, letter.number, letter.copy, copy.version, 0);
            }
        } else {
            answer(reads.get(letter.number), letter);
        }
    }

    private void hand(Letter letter) {
        for (Copy keeper : copies) {
            if (keeper.up) {
                keeper.keeps[letter.copy] = Math.max(keeper.keeps[letter.copy], letter.version);
                return;
            }
        }
        lost++;
    }

    private void answer(Read read, Letter letter) {
        if (read.answers.size() == runR) {
            return;
        }
        read.answers.add(new int[] {letter.copy, letter.version});
        if (read.answers.size() < runR) {
            return;
        }
        read.done = tick;
        int greatest = 0;
        for (int[] answer : read.answers) {
            greatest = Math.max(greatest, answer[1]);
        }
        for (int i = 0; i < writes.size(); i++) {
            int done = writes.get(i).done;
            if (done >= 0 && done < read.begun && i + 1 > greatest) {
                read.missed++;
            }
        }
        if (mends) {
            for (int i = 0; i < copies.size(); i++) {
                for (int[] answer : read.answers) {
                    if (answer[0] == i && answer[1] < greatest) {
                        send('m', 1, 0, i, greatest, 0);
                    }
                }
            }
        }
        read.told = greatest;
        if (kept[read.reader] && seen[read.reader] > greatest) {
            read.told = seen[read.reader];
            raises++;
        }
        seen[read.reader] = Math.max(seen[read.reader], read.told);
    }

    public long go(int ticks) {
        return call(-1, () -> {
            ask(ticks, 0, 10000);
            askRun();
            for (int i = 0; i < ticks; i++) {
                tick++;
                work();
            }
            return tick;
        });
    }

    private Copy askCopy(int copy) {
        ask(copy, 0, copies == null ? 4 : copies.size() - 1);
        askRun();
        return copies.get(copy);
    }

    public long down(int copy, boolean losing) {
        return call(0, () -> {
            Copy it = askCopy(copy);
            ask(it.up, 5);
            it.up = false;
            if (losing) {
                it.version = 0;
                for (int i = 0; i < 5; i++) {
                    lost += it.keeps[i] > 0 ? 1 : 0;
                    it.keeps[i] = 0;
                }
            }
            return 1;
        });
    }

    public long up(int copy) {
        return call(-1, () -> {
            Copy it = askCopy(copy);
            ask(!it.up, 5);
            it.up = true;
            int given = 0;
            for (int i = 0; i < copies.size(); i++) {
                Copy other = copies.get(i);
                if (i != copy && other.up && other.keeps[copy] > 0) {
                    it.version = Math.max(it.version, other.keeps[copy]);
                    other.keeps[copy] = 0;
                    given++;
                }
            }
            for (int i = 0; i < copies.size(); i++) {
                Copy other = copies.get(i);
                if (i != copy && other.up && it.keeps[i] > 0) {
                    other.version = Math.max(other.version, it.keeps[i]);
                    it.keeps[i] = 0;
                    given++;
                }
            }
            return given;
        });
    }

    public long sweep(int a, int b) {
        return call(-1, () -> {
            ask(a != b, 1);
            ask(a, 0, copies == null ? 4 : copies.size() - 1);
            ask(b, 0, copies == null ? 4 : copies.size() - 1);
            Copy one = askCopy(a);
            Copy other = askCopy(b);
            ask(one.up && other.up, 5);
            if (one.version == other.version) {
                return 0;
            }
            one.version = Math.max(one.version, other.version);
            other.version = one.version;
            return 1;
        });
    }

    public long of(int copy, int what) {
        return call(-1, () -> {
            ask(what, 0, 2);
            Copy it = askCopy(copy);
            if (what == 0) {
                return it.version;
            }
            if (what == 1) {
                return it.up ? 1 : 0;
            }
            int many = 0;
            for (int kept : it.keeps) {
                many += kept > 0 ? 1 : 0;
            }
            return many;
        });
    }

    public long done(int write) {
        return call(-1, () -> {
            ask(write, 1, copies == null ? 40 : writes.size());
            askRun();
            int done = writes.get(write - 1).done;
            ask(done >= 0, 7);
            return done;
        });
    }

    public long got(int read, int what) {
        return call(-1, () -> {
            ask(what, 0, 2);
            ask(read, 0, copies == null ? 39 : reads.size() - 1);
            askRun();
            Read it = reads.get(read);
            ask(it.done >= 0, 7);
            return what == 0 ? it.done : what == 1 ? it.told : it.missed;
        });
    }

    public long tell(int what) {
        return call(-1, () -> {
            ask(what, 0, 6);
            askRun();
            int missed = 0;
            for (Read read : reads) {
                missed += read.done >= 0 && read.missed > 0 ? 1 : 0;
            }
            return new int[] {tick, writes.size(), reads.size(), letters.size(), lost, raises, missed}[what];
        });
    }
}
