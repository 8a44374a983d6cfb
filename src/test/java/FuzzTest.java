import java.util.Random;

/**
 * Random calls on the program and on the Model, one beside the other: every answer, STATUS and FRACTION
 * is the same. The seeds are fixed, so each run asks the same calls.
 */
public final class FuzzTest {
    private static final int[] EDGES = {
        Integer.MIN_VALUE, -2, -1, 0, 1, 2, 3, 4, 5, 6, 7, 8, 9, 14, 15, 16, 17, 39, 40, 41, 100, 101, 1000, 1001,
        10000, 10001, 1000000, 1000001, Integer.MAX_VALUE
    };

    private final Random random;
    private final ReadAge judge = new ReadAge();
    private final Model model = new Model();
    private final Due due = new Due(judge);
    private final boolean chances;
    /** Of 100 numbers so many are edges, whatever is asked. */
    private final int wild;

    private FuzzTest(long seed) {
        random = new Random(seed);
        chances = seed % 4 == 0;
        wild = seed % 3 == 0 ? 6 : 0;
        due.in("seed " + seed);
    }

    private int some(int least, int most) {
        if (random.nextInt(100) < wild) {
            return EDGES[random.nextInt(EDGES.length)];
        }
        return least + random.nextInt(most - least + 1);
    }

    private boolean coin() {
        return random.nextBoolean();
    }

    private long number() {
        switch (random.nextInt(8)) {
            case 0:
                return random.nextLong();
            case 1:
                return EDGES[random.nextInt(EDGES.length)];
            case 2:
                return random.nextInt(1001);
            default:
                return random.nextInt(chances ? 3 : 12);
        }
    }

    private void is(String call, long got, long want) {
        due.is(call, got, want);
        due.is(call + ", status()", judge.status(), model.status);
        due.is(call + ", top()", judge.top(), model.top);
        due.is(call + ", bottom()", judge.bottom(), model.bottom);
    }

    private void is(String call, boolean got, long want) {
        is(call, got ? 1 : 0, want);
    }

    private void sheetCall() {
        int a = some(0, 3);
        int b = some(0, 3);
        int c = some(0, 12);
        int d = some(0, 12);
        int e = some(0, 6);
        long v = number();
        switch (random.nextInt(12)) {
            case 0:
                is("sheet " + a + " " + b + " " + c, judge.sheet(a, b, c), model.sheet(a, b, c));
                break;
            case 1:
                is("read " + a + " " + c, judge.read(a, c), model.read(a, c));
                break;
            case 2:
                is("copy " + a + " " + c + " " + b + " " + d + " " + e,
                        judge.copy(a, c, b, d, e), model.copy(a, c, b, d, e));
                break;
            case 3:
                if (random.nextInt(6) == 0) {
                    is("drop " + a, judge.drop(a), model.drop(a));
                }
                is("none", judge.none(), model.none());
                break;
            default:
                is("write " + a + " " + c + " " + v, judge.write(a, c, v), model.write(a, c, v));
                break;
        }
    }

    /** A SHEET with weights or delays that fit. */
    private void fill(int most) {
        int a = random.nextInt(4);
        int sort = 1 + random.nextInt(3);
        int many = chances ? 1 + random.nextInt(8) : 10;
        is("sheet " + a, judge.sheet(a, sort, many), model.sheet(a, sort, many));
        for (int i = 0; i < many; i++) {
            long v = random.nextInt(3) == 0 ? random.nextInt(most + 1) : 0;
            is("write " + a + " " + i + " " + v, judge.write(a, i, v), model.write(a, i, v));
        }
    }

    private void chanceCall() {
        int n = some(1, 5);
        int ahead = some(0, 2);
        int k = some(0, ahead < 0 || ahead > 3 ? 2 : ahead);
        int t = coin() ? some(0, 3) : some(0, 12);
        switch (random.nextInt(9)) {
            case 0:
                int w = some(1, coin() ? 2 : 5);
                int r = some(1, coin() ? 2 : 5);
                is("numbers " + n + " " + w + " " + r, judge.numbers(n, w, r), model.numbers(n, w, r));
                break;
            case 1:
                int ticks = coin() ? some(0, 3) : some(0, 100);
                is("gap " + ticks, judge.gap(ticks), model.gap(ticks));
                break;
            case 2:
                fill(2);
                break;
            case 3:
                int table = some(0, 3);
                int sheet = some(0, 3);
                int many = some(1, 8);
                is("table " + table + " " + sheet + " " + many,
                        judge.table(table, sheet, many), model.table(table, sheet, many));
                break;
            case 4:
                boolean write = coin();
                int tick = some(0, 14);
                is("takes " + write + " " + tick, judge.takes(write, tick), model.takes(write, tick));
                break;
            case 5:
                choose(coin() ? n : some(1, 3), t, ahead, k);
                break;
            default:
                is("odds " + t + " " + ahead + " " + k, judge.odds(t, ahead, k), model.odds(t, ahead, k));
                break;
        }
    }

    private void choose(int most, int t, int ahead, int k) {
        int bottom = coin() ? some(1, 20) : some(1, 1000000);
        int top = coin() ? 0 : some(0, Math.max(0, Math.min(bottom, 1000000)));
        int perCopy = some(0, coin() ? 3 : 1000);
        int perWait = some(0, coin() ? 3 : 1000);
        int perAsk = some(0, coin() ? 3 : 1000);
        is("choose " + most + " " + t + " " + ahead + " " + k + " " + top + " " + bottom + " " + perCopy + " "
                        + perWait + " " + perAsk,
                judge.choose(most, t, ahead, k, top, bottom, perCopy, perWait, perAsk),
                model.choose(most, t, ahead, k, top, bottom, perCopy, perWait, perAsk));
    }

    private void runCall() {
        int a = some(0, 4);
        int b = some(0, 4);
        int sheet = some(0, 3);
        switch (random.nextInt(17)) {
            case 0:
                if (random.nextInt(12) == 0) {
                    is("begin", judge.begin(), model.begin());
                }
                break;
            case 1:
                boolean on = coin();
                is("mending " + on, judge.mending(on), model.mending(on));
                is("keep " + b + " " + !on, judge.keep(b, !on), model.keep(b, !on));
                break;
            case 2:
            case 3:
                is("writes " + sheet, judge.writes(sheet), model.writes(sheet));
                break;
            case 4:
            case 5:
                int reader = some(0, 3);
                is("reads " + sheet + " " + reader, judge.reads(sheet, reader), model.reads(sheet, reader));
                break;
            case 6:
            case 7:
            case 8:
                int ticks = random.nextInt(30) == 0 ? some(0, 1500) : some(0, 4);
                is("go " + ticks, judge.go(ticks), model.go(ticks));
                break;
            case 9:
                boolean losing = random.nextInt(3) == 0;
                is("down " + a + " " + losing, judge.down(a, losing), model.down(a, losing));
                break;
            case 10:
            case 11:
                is("up " + a, judge.up(a), model.up(a));
                break;
            case 12:
                is("sweep " + a + " " + b, judge.sweep(a, b), model.sweep(a, b));
                break;
            default:
                look();
                break;
        }
    }

    private void look() {
        int what = some(0, 6);
        int few = some(0, 2);
        int copy = some(0, 4);
        int act = some(0, coin() ? 12 : 40);
        switch (random.nextInt(4)) {
            case 0:
                is("of " + copy + " " + few, judge.of(copy, few), model.of(copy, few));
                break;
            case 1:
                is("done " + act, judge.done(act), model.done(act));
                break;
            case 2:
                is("got " + act + " " + few, judge.got(act, few), model.got(act, few));
                break;
            default:
                is("tell " + what, judge.tell(what), model.tell(what));
                break;
        }
    }

    /** All that can be asked of a RUN. */
    private void lookAtAll() {
        for (int what = 0; what < 7; what++) {
            is("tell " + what, judge.tell(what), model.tell(what));
        }
        for (int copy = 0; copy < 5; copy++) {
            for (int what = 0; what < 3; what++) {
                is("of " + copy + " " + what, judge.of(copy, what), model.of(copy, what));
            }
        }
        for (int act = 0; act < 41; act++) {
            is("done " + act, judge.done(act), model.done(act));
            for (int what = 0; what < 3; what++) {
                is("got " + act + " " + what, judge.got(act, what), model.got(act, what));
            }
        }
    }

    private Due play() {
        if (!chances) {

            int n = 2 + random.nextInt(4);
            int w = 1 + random.nextInt(Math.min(n, 3));
            int r = 1 + random.nextInt(Math.min(n, 3));
            is("numbers " + n + " " + w + " " + r, judge.numbers(n, w, r), model.numbers(n, w, r));
            for (int i = 0; i < 3; i++) {
                fill(9);
            }
            is("begin", judge.begin(), model.begin());
        }
        int calls = chances ? 150 : 300;
        for (int i = 0; i < calls; i++) {
            int sort = random.nextInt(100);
            if (sort < (chances ? 85 : 2)) {
                chanceCall();
            } else if (sort < (chances ? 95 : 12)) {
                sheetCall();
            } else {
                runCall();
            }
        }
        lookAtAll();
        return due;
    }

    public static void main(String[] args) {
        int runs = 600;
        Due[] all = new Due[runs];
        for (int seed = 0; seed < runs; seed++) {
            all[seed] = new FuzzTest(seed).play();
            if (all[seed].wrong() > 0) {
                Due.end(all[seed]);
            }
        }
        Due.end(all);
    }
}
