/** Promises 21 to 23. */
public final class StopTest {
    private static final Due DUE = new Due("StopTest");

    public static void main(String[] args) {
        lose();
        chain();
        lostWords();
        cutRooms();
        cutInTheMiddle();
        breaths();
        refused();
        DUE.end();
    }

    private static void lose() {
        ChoirWires x = Choirs.of(0, 0, 0);
        DUE.is("21 lost now", x.lose(1, 0, 1, true), 0);
        DUE.is("21 was lost", x.lose(1, 0, 1, true), 1);
        DUE.is("21 no more", x.lose(1, 0, 1, false), 1);
        DUE.is("21 was not", x.lose(1, 0, 1, false), 0);
        DUE.is("21 last round", x.lose(7, 2, 1, true), 0);
        DUE.is("21 the way back is another", x.lose(7, 1, 2, false), 0);
        DUE.is("21 another one's", x.lose(7, 0, 1, false), 0);
        DUE.is("21 another round", x.lose(6, 2, 1, false), 0);
        DUE.is("21 still lost", x.lose(7, 2, 1, false), 1);
        DUE.is("21 round 0", x.lose(0, 0, 1, true), ChoirWires.BAD);
        DUE.is("21 round 8", x.lose(8, 0, 1, true), ChoirWires.BAD);
        DUE.is("21 one room", x.lose(1, 1, 1, true), ChoirWires.BAD);
        DUE.is("21 from 3", x.lose(1, 3, 1, true), ChoirWires.BAD);
        DUE.is("21 to 3", x.lose(1, 1, 3, true), ChoirWires.BAD);
        DUE.is("21 from -1", x.lose(1, -1, 1, true), ChoirWires.BAD);
        DUE.is("21 to -1", x.lose(1, 1, -1, true), ChoirWires.BAD);
    }

    /** Words go one wire a round, and only the way the wires go. */
    private static void chain() {
        ChoirWires x = Choirs.of(0, 4, 3, 0, 0, 0, 0, 0);
        for (int i = 0; i < 7; i++) {
            x.wire(i, i + 1, 400);
        }
        for (int n = 0; n <= 7; n++) {
            DUE.is("23 the last one behind " + n, x.knows(7, n), 255 & ~((1 << 7 - n) - 1));
            DUE.is("23 the first one behind " + n, x.knows(0, n), 1);
            DUE.is("22 the last one behind " + n, x.goes(7, n), n == 7 ? 0 : ChoirWires.NONE);
            DUE.is("22 the first one behind " + n, x.goes(0, n), ChoirWires.NONE);
        }
    }

    private static void lostWords() {
        ChoirWires x = Choirs.of(0, 0);
        Choirs.pair(x, 0, 1, 9, 9);
        x.lose(1, 0, 1, true);
        x.lose(2, 0, 1, true);
        x.lose(2, 1, 0, true);
        DUE.is("23 round 1 lost", x.knows(1, 1), 2);
        DUE.is("23 the way back came", x.knows(0, 1), 3);
        DUE.is("23 round 2 lost", x.knows(1, 2), 2);
        DUE.is("23 what is known stays known", x.knows(0, 2), 3);
        DUE.is("23 round 3 came", x.knows(1, 3), 3);
        DUE.is("22 it waits till then", x.goes(1, 2), ChoirWires.NONE);
        DUE.is("22 and goes then", x.goes(1, 3), 0);
        x.lose(2, 0, 1, false);
        DUE.is("23 round 2 came after all", x.knows(1, 2), 3);
        ChoirWires twice = Choirs.of(0, 0, 0, 0);
        twice.wire(0, 1, 1);
        twice.wire(0, 2, 1);
        twice.wire(1, 3, 1);
        twice.wire(2, 3, 1);
        DUE.is("23 told by two at once", twice.knows(3, 2), 15);
    }

    private static void cutRooms() {
        ChoirWires x = Choirs.meshed(5, 0, 5, 4);
        Choirs.read(x, "abc.abc.");
        x.set(0, 5, 7);
        x.set(1, 5, 0);
        x.set(2, 5, 4);
        DUE.is("23 a cut one knows itself", x.knows(1, 7), 2);
        DUE.is("23 nobody knows of a cut one", x.knows(0, 7), 5);
        DUE.is("22 a cut one waits", x.goes(1, 7), ChoirWires.NONE);
        DUE.is("22 its beat does not count", x.goes(0, 1), 3);
        DUE.is("22 silent ones do", x.goes(2, 1), 3);
        x.set(0, 0, 5);
        DUE.is("22 one alone goes at once", x.goes(2, 0), 3);
        x.set(2, 0, 5);
        DUE.is("22 all are cut", x.goes(2, 0), ChoirWires.NONE);
    }

    /** It takes no words, hands none on and is waited for by nobody. */
    private static void cutInTheMiddle() {
        ChoirWires x = Choirs.of(0, 4, 0);
        x.wire(0, 1, 1);
        x.wire(1, 2, 1);
        DUE.is("23 by the middle", x.knows(2, 2), 7);
        x.set(1, 0, 5);
        DUE.is("23 not, if it is cut", x.knows(2, 7), 4);
        DUE.is("23 it takes none", x.knows(1, 7), 2);
        DUE.is("22 the last one waits for the first", x.goes(2, 7), ChoirWires.NONE);
        x.wire(0, 2, 1);
        DUE.is("22 but not for the middle", x.goes(2, 1), 0);
        x.wire(0, 2, 0);
        x.set(0, 0, 5);
        DUE.is("23 a cut one tells nothing", x.knows(2, 7), 4);
        DUE.is("22 it is the only one then", x.goes(2, 0), 0);
    }

    private static void breaths() {
        ChoirWires x = Choirs.of(0);
        x.set(0, 5, 63);
        DUE.is("22 no piece", x.goes(0, 0), 0);
        Choirs.read(x, "a2.b.c2-.d");
        int[] from = {0, 0, 2, 3, 3, 3, 6, 6, 6};
        for (int beat = 0; beat < from.length; beat++) {
            x.set(0, 5, beat);
            DUE.is("22 at beat " + beat, x.goes(0, 0), from[beat]);
        }
        x.set(0, 5, 63);
        DUE.is("22 far behind the end", x.goes(0, 0), 6);
        Choirs.read(x, "ab.");
        DUE.is("22 a breath at the end", x.goes(0, 0), 2);
        Choirs.read(x, "a.b");
        DUE.is("22 a breath behind the first", x.goes(0, 0), 1);
        Choirs.read(x, "ab");
        DUE.is("22 no breath", x.goes(0, 0), 0);
        Choirs.read(x, "a9a9a9a9a9a9a9.a.");
        DUE.is("22 a breath behind beat 63 is too late", x.goes(0, 0), 63);
    }

    private static void refused() {
        ChoirWires x = Choirs.of(0, 0);
        DUE.is("22 room 2", x.goes(2, 0), ChoirWires.BAD);
        DUE.is("22 room -1", x.goes(-1, 0), ChoirWires.BAD);
        DUE.is("22 n -1", x.goes(0, -1), ChoirWires.BAD);
        DUE.is("22 n 8", x.goes(0, 8), ChoirWires.BAD);
        DUE.is("23 room 2", x.knows(2, 0), ChoirWires.BAD);
        DUE.is("23 room -1", x.knows(-1, 0), ChoirWires.BAD);
        DUE.is("23 n -1", x.knows(0, -1), ChoirWires.BAD);
        DUE.is("23 n 8", x.knows(0, 8), ChoirWires.BAD);
        x.set(0, 0, 5);
        DUE.is("22 n 8 of a cut one", x.goes(0, 8), ChoirWires.BAD);
    }
}
