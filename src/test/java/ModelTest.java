import java.util.Random;

/** Runs of calls picked by a fixed row of numbers, asked of the class and of the Model. */
public final class ModelTest {
    private static final Due DUE = new Due("ModelTest");
    private static final int RUNS = 300;
    private static final int CALLS = 512;
    private static final String TEXT = "aaabbcdefg--1239..  ";
    private static final String[] NAMES = {"room", "set", "wire", "wires", "pace", "time", "paceAt", "slows",
        "apart", "count", "hold", "together", "type", "piece", "sound", "fit", "clashes", "canon", "sea", "lose",
        "goes", "knows", "loss", "lost", "group", "clear", "most", "net", "image", "restore", "sheet", "drop",
        "item", "copy"};
    /** How often each is called beside the others: what fills an object more often than what empties it. */
    private static final int[] OFTEN = {1, 12, 20, 8, 1, 8, 4, 1, 4, 5, 8, 10, 8, 2, 4, 1, 4, 4, 2, 6, 8, 6, 4, 6,
        3, 1, 1, 4, 1, 1, 2, 1, 10, 8};

    private final Random random;
    private ChoirWires x = new ChoirWires();
    private Model m = new Model();

    private ModelTest(int seed) {
        random = new Random(seed);
    }

    public static void main(String[] args) {
        for (int run = 0; run < RUNS && DUE.failed() < 20; run++) {
            new ModelTest(run).run(run);
        }
        DUE.end();
    }

    private void run(int run) {
        if (run % 3 != 0) {
            fill(run % 3 == 1 ? 3 : 60);
        }
        for (int call = 0; call < CALLS && DUE.failed() < 20; call++) {
            int op = pick();
            call("run " + run + ", call " + call + ": " + NAMES[op], op);
        }
    }

    /** A full choir with wires of few or of many lengths. */
    private void fill(int lengths) {
        int rooms = 2 + random.nextInt(7);
        for (int i = 0; i < rooms; i++) {
            int kind = random.nextInt(5);
            x.room(kind);
            m.room(kind);
        }
        for (int i = 0; i < 64; i++) {
            int blinks = 1 + random.nextInt(lengths);
            x.wire(i / 8, i % 8, blinks);
            m.wire(i / 8, i % 8, blinks);
        }
        int lane = random.nextInt(3);
        for (int sheet = 0; sheet < 3; sheet++) {
            int n = 12 + random.nextInt(29);
            x.sheet(sheet, lane, n);
            m.sheet(sheet, lane, n);
        }
    }

    private int pick() {
        int sum = 0;
        for (int often : OFTEN) {
            sum += often;
        }
        int left = random.nextInt(sum);
        int op = 0;
        while (left >= OFTEN[op]) {
            left -= OFTEN[op];
            op++;
        }
        return op;
    }

    /** Mostly least .. most, now and then just outside or far. */
    private int in(int least, int most) {
        int how = random.nextInt(60);
        if (how == 0) {
            return least - 1;
        }
        if (how == 1) {
            return most + 1;
        }
        if (how == 2) {
            return random.nextInt();
        }
        return least + random.nextInt(most - least + 1);
    }

    private int room() {
        return in(0, Math.max(0, m.count(0) - 1));
    }

    private long text(int n) {
        if (random.nextInt(4) > 0) {
            return random.nextBoolean() ? 0x20202020L << 32 | soundText() << 16 | soundText() : soundText();
        }
        long w = random.nextInt(40) == 0 ? random.nextInt() : 0;
        for (int i = 0; i < Math.min(n, 8); i++) {
            w = w << 8 | TEXT.charAt(random.nextInt(TEXT.length()));
        }
        return random.nextInt(60) == 0 ? random.nextLong() : w;
    }

    /** A sound of two bytes. */
    private long soundText() {
        return "abcdefg-".charAt(random.nextInt(8)) << 8 | " .234".charAt(random.nextInt(5));
    }

    private long lossBits() {
        long bits = 0;
        for (int i = random.nextInt(4); i > 0; i--) {
            bits |= 1L << random.nextInt(random.nextInt(8) == 0 ? 50 : 48);
        }
        return bits;
    }

    private int smallOrAny(int most) {
        return random.nextBoolean() ? in(0, Math.min(most, 3)) : in(0, most);
    }

    private void call(String name, int op) {
        int a = op >= 30 ? in(0, 3) : 0;
        switch (op) {
            case 0 -> { int k = in(0, 5); due(name, x.room(k), m.room(k), k); }
            case 1 -> setOne(name);
            case 2 -> { int f = room(), t = room(), b = smallOrAny(400); due(name, x.wire(f, t, b), m.wire(f, t, b), f, t, b); }
            case 3 -> wiresOfSheet(name);
            case 4 -> { int p = in(1, 2000); due(name, x.pace(p), m.pace(p), p); }
            case 5 -> { int r = room(), b = in(0, 40); due(name, x.time(r, b), m.time(r, b), r, b); }
            case 6 -> { int b = in(1, 40); due(name, x.paceAt(b), m.paceAt(b), b); }
            case 7 -> slow(name);
            case 8 -> { int b = in(0, 40); due(name, x.apart(b), m.apart(b), b); }
            case 9 -> { int w = in(0, 5); due(name, x.count(w), m.count(w), w); }
            case 10 -> { int r = room(), w = in(0, 1); due(name, x.hold(r, w), m.hold(r, w), r, w); }
            case 11 -> { int e = ears(), w = in(0, 8); due(name, x.together(e, w), m.together(e, w), e, w); }
            case 12 -> { int n = random.nextInt(4) > 0 ? 2 * in(1, 2) : in(1, 8); long w = text(n); due(name, x.type(w, n), m.type(w, n), w, n); }
            case 13 -> due(name, x.piece(), m.piece());
            case 14 -> { int b = in(0, 20); due(name, x.sound(b), m.sound(b), b); }
            case 15 -> { int b = in(0, 127); due(name, x.fit(b), m.fit(b), b); }
            case 16 -> { int d = in(1, 20); due(name, x.clashes(d), m.clashes(d), d); }
            case 17 -> { int i = in(0, 3); due(name, x.canon(i), m.canon(i), i); }
            case 18 -> { int d = in(1, 63), b = in(1, 700) * in(1, 63); due(name, x.sea(d, b), m.sea(d, b), d, b); }
            case 19 -> { int n = in(1, 3), f = room(), t = room(); boolean is = random.nextInt(4) > 0; due(name, x.lose(n, f, t, is), m.lose(n, f, t, is), n, f, t); }
            case 20 -> { int r = room(), n = in(0, 7); due(name, x.goes(r, n), m.goes(r, n), r, n); }
            case 21 -> { int r = room(), n = in(0, 7); due(name, x.knows(r, n), m.knows(r, n), r, n); }
            case 22 -> { long b = lossBits(); due(name, x.loss(b), m.loss(b), b); }
            case 23 -> { int r = in(0, Math.max(0, m.count(5) - 1)), g = in(1, 12); due(name, x.lost(r, g), m.lost(r, g), r, g); }
            case 24 -> due(name, x.group(), m.group());
            case 25 -> due(name, x.clear(), m.clear());
            case 26 -> { int n = in(1, 7); due(name, x.most(n), m.most(n), n); }
            case 27 -> due(name, x.net(), m.net());
            case 28 -> { int n = in(0, 1); due(name, x.image(n), m.image(n), n); }
            case 29 -> { int n = in(0, 1); due(name, x.restore(n), m.restore(n), n); }
            case 30 -> { int l = in(0, 2), n = in(0, 40); due(name, x.sheet(a, l, n), m.sheet(a, l, n), a, l, n); }
            case 31 -> due(name, x.drop(a), m.drop(a), a);
            case 32 -> { int l = in(0, 2), i = in(0, 20), v = smallOrAny(500); due(name, x.item(a, l, i, v), m.item(a, l, i, v), a, l, i, v); }
            default -> { int i = in(0, 10), t = in(0, 3), j = in(0, 10), n = in(0, 20); due(name, x.copy(a, i, t, j, n), m.copy(a, i, t, j, n), a, i, t, j, n); }
        }
    }

    private int ears() {
        return random.nextInt(30) == 0 ? in(0, 255) : in(1, Math.max(1, (1 << m.count(0)) - 1));
    }

    private void setOne(String name) {
        int[] most = {5, 99, 100, 999, 400, 63};
        int r = room();
        int what = in(0, 5);
        int v = in(0, what < 0 || what > 5 ? 5 : most[what]);
        due(name, x.set(r, what, v), m.set(r, what, v), r, what, v);
    }

    private void wiresOfSheet(String name) {
        int f = room();
        int sheet = in(0, 3);
        int lane = in(0, 2);
        int i = in(0, 10);
        due(name, x.wires(f, sheet, lane, i), m.wires(f, sheet, lane, i), f, sheet, lane, i);
    }

    private void slow(String name) {
        int beat = in(1, 40);
        int now = m.paceAt(beat);
        int v = random.nextBoolean() ? in(0, 99999) : now + random.nextInt(30) - 10;
        due(name, x.slows(beat, v), m.slows(beat, v), beat, v);
    }

    private void due(String name, int got, int want, long... args) {
        StringBuilder call = new StringBuilder(name).append('(');
        for (int i = 0; i < args.length; i++) {
            call.append(i > 0 ? ", " : "").append(args[i]);
        }
        DUE.is(call.append(')').toString(), got, want);
    }
}
