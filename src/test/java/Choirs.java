/** Makes and fills objects for the tests. */
final class Choirs {
    private Choirs() {
    }

    /** Rooms of these kinds, without wires. */
    static ChoirWires of(int... kinds) {
        ChoirWires x = new ChoirWires();
        for (int kind : kinds) {
            x.room(kind);
        }
        return x;
    }

    /** All wires there and back take so many blinks. */
    static ChoirWires meshed(int blinks, int... kinds) {
        ChoirWires x = of(kinds);
        for (int from = 0; from < kinds.length; from++) {
            for (int to = 0; to < kinds.length; to++) {
                if (from != to) {
                    x.wire(from, to, blinks);
                }
            }
        }
        return x;
    }

    static void pair(ChoirWires x, int one, int other, int there, int back) {
        x.wire(one, other, there);
        x.wire(other, one, back);
    }

    /** Types a text; what the tape has then. */
    static int typed(ChoirWires x, String text) {
        int has = 0;
        for (int at = 0; at < text.length(); at += 8) {
            int n = Math.min(8, text.length() - at);
            long w = 0;
            for (int i = 0; i < n; i++) {
                w = w << 8 | text.charAt(at + i);
            }
            has = x.type(w, n);
        }
        return has;
    }

    static int read(ChoirWires x, String text) {
        typed(x, text);
        return x.piece();
    }
}
