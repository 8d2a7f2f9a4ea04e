/** Makes and fills objects for the tests. */
final class Choirs {
    /** 64 beats with a breath behind the last. */
    static final String LONGEST = "a9b9c9d9e9f9g9a.";

    private Choirs() {
    }

    /** Rooms of these kinds, without wires. */
    static ChoirWires of(int... kinds) {
        ChoirWires x = new ChoirWires();
        for (int kind : kinds) {
            x.room(kind);
        }
        return x;
    }

    /** All wires there and back take so many blinks. */
    static ChoirWires meshed(int blinks, int... kinds) {
        ChoirWires x = of(kinds);
        for (int from = 0; from < kinds.length; from++) {
            for (int to = 0; to < kinds.length; to++) {
                if (from != to) {
                    x.wire(from, to, blinks);
                }
            }
        }
        return x;
    }

    /** All that can be full: 8 followers 9 blinks apart, 64 beats, 8 loss rows, 4 sheets of 40 ints, 2 images. */
    static ChoirWires full() {
        ChoirWires x = meshed(9, 0, 0, 0, 0, 0, 0, 0, 0);
        read(x, LONGEST);
        for (int row = 0; row < 8; row++) {
            x.loss(1L << row);
        }
        for (int sheet = 0; sheet < 4; sheet++) {
            x.sheet(sheet, 2, 40);
        }
        x.image(0);
        x.image(1);
        return x;
    }

    /** The same of one of each: a room, a beat, a loss row, sheets of one byte. */
    static ChoirWires single() {
        ChoirWires x = of(0);
        read(x, "a");
        x.loss(1);
        for (int sheet = 0; sheet < 4; sheet++) {
            x.sheet(sheet, 0, 1);
        }
        return x;
    }

    static void pair(ChoirWires x, int one, int other, int there, int back) {
        x.wire(one, other, there);
        x.wire(other, one, back);
    }

    /** Types a text; what the tape has then. */
    static int typed(ChoirWires x, String text) {
        int has = 0;
        for (int at = 0; at < text.length(); at += 8) {
            int n = Math.min(8, text.length() - at);
            has = x.type(bytes(text.substring(at, at + n)), n);
        }
        return has;
    }

    /** Up to eight bytes as type() takes them. */
    static long bytes(String text) {
        long w = 0;
        for (int i = 0; i < text.length(); i++) {
            w = w << 8 | text.charAt(i);
        }
        return w;
    }

    static int read(ChoirWires x, String text) {
        typed(x, text);
        return x.piece();
    }
}
