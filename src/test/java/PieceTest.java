/** Promises 14 to 20. */
public final class PieceTest {
    private static final Due DUE = new Due("PieceTest");

    public static void main(String[] args) {
        type();
        typeFull();
        piece();
        faults();
        faultsOfLength();
        sound();
        fit();
        clashes();
        canon();
        sea();
        DUE.end();
    }

    private static void type() {
        ChoirWires x = new ChoirWires();
        DUE.is("14 the highest of the lowest first", x.type(0x6132622E63L, 5), 5);
        DUE.is("14 read so", x.piece(), 4);
        DUE.is("14 beat 1", x.sound(1), 1);
        DUE.is("14 beat 2", x.sound(2), 12);
        DUE.is("14 beat 3", x.sound(3), 3);
        DUE.is("14 higher bytes do not count", x.type(0x0100610062L, 1), 1);
        DUE.is("14 n 0", x.type('a', 0), ChoirWires.BAD);
        DUE.is("14 n 9", x.type('a', 9), ChoirWires.BAD);
        DUE.is("14 n -1", x.type('a', -1), ChoirWires.BAD);
        DUE.is("14 n 9 of eight good ones", x.type(0x6161616161616161L, 9), ChoirWires.BAD);
        DUE.is("14 byte 31", x.type(31, 1), ChoirWires.BAD);
        DUE.is("14 byte 127", x.type(127, 1), ChoirWires.BAD);
        DUE.is("14 byte 255", x.type(-1, 1), ChoirWires.BAD);
        DUE.is("14 a byte 0 among them", x.type(0x610061, 3), ChoirWires.BAD);
        DUE.is("14 the eighth byte is 0", x.type(0x61616161616161L, 8), ChoirWires.BAD);
        DUE.is("14 bytes 32 and 126", x.type(0x207E, 2), 3);
        DUE.is("14 only b stood there", x.piece(), -22);
    }

    private static void typeFull() {
        ChoirWires x = new ChoirWires();
        for (int i = 1; i <= 14; i++) {
            DUE.is("14 eight more", x.type(0x2020202020202020L, 8), 8 * i);
        }
        DUE.is("14 seven more", x.type(0x20202020202020L, 7), 119);
        DUE.is("14 two are too many", x.type(0x2020, 2), ChoirWires.FULL);
        DUE.is("14 a bad one first", x.type(0x2001, 2), ChoirWires.BAD);
        DUE.is("14 one more", x.type('a', 1), 120);
        DUE.is("14 full", x.type('a', 1), ChoirWires.FULL);
        DUE.is("15 blanks count for nothing", x.piece(), 1);
        DUE.is("14 the tape is empty then", x.type('a', 1), 1);
    }

    private static void piece() {
        ChoirWires x = new ChoirWires();
        DUE.is("15 blanks anywhere", Choirs.read(x, "  a  3 . - b .g  "), 6);
        DUE.is("15 breaths", x.count(4), 2);
        DUE.is("15 the tape is empty", x.piece(), -20);
        DUE.is("15 the piece stays", x.count(3), 6);
        DUE.is("15 a fault", Choirs.read(x, "ab.h"), -23);
        DUE.is("15 the piece stays then", x.sound(2), 11);
        DUE.is("15 the tape goes then", Choirs.typed(x, "g"), 1);
        DUE.is("15 a shorter one", x.piece(), 1);
        DUE.is("15 no more of the other", x.sound(1), ChoirWires.BAD);
        DUE.is("15 no breath of the other", x.count(4), 0);
        DUE.is("15 a rest with beats and a breath", Choirs.read(x, "-9."), 9);
        DUE.is("15 its breath", x.sound(8), 10);
        DUE.is("15 a rest's breath counts", x.count(4), 1);
        DUE.is("15 one beat", Choirs.read(x, "f."), 1);
        DUE.is("15 a breath behind the first", x.count(4), 1);
    }

    private static void faults() {
        ChoirWires x = new ChoirWires();
        String[] texts = {"", "   ", "h", "A", "1", ".", " 1", "a0", "a12", "a..", "a.1", "a 1 2", "a. .", "a`",
            "a -- z", "a1.b2.~", "a:", "a/", "-g-h"};
        int[] places = {0, 3, 0, 0, 0, 0, 1, 1, 2, 2, 2, 4, 3, 1, 5, 6, 1, 1, 3};
        for (int i = 0; i < texts.length; i++) {
            DUE.is("15 the fault of '" + texts[i] + "'", Choirs.read(x, texts[i]), -20 - places[i]);
        }
        DUE.is("15 no piece by all these", x.count(3), 0);
    }

    private static void faultsOfLength() {
        ChoirWires x = new ChoirWires();
        String sevens = "a9a9a9a9a9a9a9";
        DUE.is("15 64 beats", Choirs.read(x, sevens + "b1."), 64);
        DUE.is("15 its last", x.sound(63), 12);
        DUE.is("15 behind its last", x.sound(64), ChoirWires.BAD);
        DUE.is("15 65 beats by a digit", Choirs.read(x, sevens + "b 2"), -34);
        DUE.is("15 65 beats by a letter", Choirs.read(x, sevens + "b. -"), -37);
        DUE.is("15 too long ahead of a worse byte", Choirs.read(x, sevens + "b9x"), -34);
        DUE.is("15 a worse byte ahead of too long", Choirs.read(x, sevens + "b0"), -35);
        DUE.is("15 no place, a byte that never stands", Choirs.read(x, sevens + "bx"), -35);
        DUE.is("15 no place, a second breath", Choirs.read(x, sevens + "b.."), -36);
        String forty = "abcdefg-abcdefg-abcdefg-abcdefg-abcdefg-";
        DUE.is("15 40 sounds", Choirs.read(x, forty + "."), 40);
        DUE.is("15 40 sounds, blanks behind", Choirs.read(x, forty + "  "), 40);
        DUE.is("15 a 41st", Choirs.read(x, forty + ". a"), -62);
        DUE.is("15 a 41st with a digit", Choirs.read(x, forty + "a0"), -60);
        DUE.is("15 no 41st but a worse byte", Choirs.read(x, forty + " x"), -61);
        DUE.is("15 the piece of 40 stays", x.count(3), 40);
    }

    private static void sound() {
        ChoirWires x = new ChoirWires();
        Choirs.read(x, "abcdefg-a2.-.");
        int[] want = {1, 2, 3, 4, 5, 6, 7, 0, 1, 11, 10};
        for (int beat = 0; beat < want.length; beat++) {
            DUE.is("16 sound(" + beat + ")", x.sound(beat), want[beat]);
        }
        DUE.is("16 sound(11)", x.sound(11), ChoirWires.BAD);
        DUE.is("16 sound(-1)", x.sound(-1), ChoirWires.BAD);
        DUE.is("16 sound(64)", x.sound(64), ChoirWires.BAD);
    }

    private static void fit() {
        ChoirWires x = new ChoirWires();
        DUE.is("17 fit(128)", x.fit(128), ChoirWires.BAD);
        DUE.is("17 fit(-1)", x.fit(-1), ChoirWires.BAD);
        DUE.is("17 at first", x.fit(127), 21);
        DUE.is("17 fit(0)", x.fit(0), 127);
        DUE.is("17 again", x.fit(64), 0);
    }

    private static void clashes() {
        ChoirWires x = new ChoirWires();
        Choirs.read(x, "abg-a.");
        DUE.is("18 b on a, g on b", x.clashes(1), 2);
        DUE.is("18 g on a, a on g, rests never", x.clashes(2), 2);
        DUE.is("18 a on b", x.clashes(3), 1);
        DUE.is("18 a on a fits, a breath is no sound", x.clashes(4), 0);
        DUE.is("18 d 0", x.clashes(0), ChoirWires.BAD);
        DUE.is("18 d 5", x.clashes(5), ChoirWires.BAD);
        DUE.is("18 d -1", x.clashes(-1), ChoirWires.BAD);
        x.fit(1 << 5 | 1 << 1);
        DUE.is("18 1 and 5 fit now", x.clashes(1), 0);
        DUE.is("18 6 does not", x.clashes(2), 2);
        DUE.is("18 0 does not", x.clashes(4), 1);
        x.fit(64);
        DUE.is("18 6 fits now", x.clashes(2), 0);
        Choirs.read(x, "a. c.");
        x.fit(21);
        DUE.is("18 breaths change no distance", x.clashes(1), 0);
    }

    private static void canon() {
        ChoirWires x = new ChoirWires();
        DUE.is("19 no piece", x.canon(0), ChoirWires.NONE);
        DUE.is("19 no piece, i -1", x.canon(-1), ChoirWires.BAD);
        Choirs.read(x, "ababa");
        DUE.is("19 the first", x.canon(0), 2);
        DUE.is("19 the second", x.canon(1), 4);
        DUE.is("19 no more", x.canon(2), ChoirWires.NONE);
        DUE.is("19 far beyond", x.canon(Integer.MAX_VALUE), ChoirWires.NONE);
        DUE.is("19 i -1", x.canon(-1), ChoirWires.BAD);
        x.fit(0);
        DUE.is("19 nothing fits", x.canon(0), ChoirWires.NONE);
        Choirs.read(x, "a");
        x.fit(127);
        DUE.is("19 one beat has no delay", x.canon(0), ChoirWires.NONE);
        Choirs.read(x, "a9b9c9d9e9f9g9a");
        DUE.is("19 all fits", x.canon(62), 63);
        DUE.is("19 the first of all", x.canon(0), 1);
    }

    private static void sea() {
        ChoirWires x = new ChoirWires();
        DUE.is("20 1000 as 4", x.sea(4, 1000), 250);
        DUE.is("20 1000 as 3", x.sea(3, 1000), ChoirWires.NONE);
        DUE.is("20 the greatest pace", x.sea(20, 40000), 2000);
        DUE.is("20 above it", x.sea(1, 2001), ChoirWires.NONE);
        DUE.is("20 cut it were just 2000", x.sea(2, 4001), ChoirWires.NONE);
        DUE.is("20 pace 1", x.sea(63, 63), 1);
        DUE.is("20 one as one", x.sea(1, 1), 1);
        DUE.is("20 fewer blinks than beats", x.sea(63, 62), ChoirWires.NONE);
        DUE.is("20 d 0", x.sea(0, 100), ChoirWires.BAD);
        DUE.is("20 d 64", x.sea(64, 64), ChoirWires.BAD);
        DUE.is("20 d -1", x.sea(-1, 100), ChoirWires.BAD);
        DUE.is("20 blinks 0", x.sea(1, 0), ChoirWires.BAD);
        DUE.is("20 blinks 40001", x.sea(1, 40001), ChoirWires.BAD);
        DUE.is("20 blinks 40020", x.sea(60, 40020), ChoirWires.BAD);
        DUE.is("20 the pace stays", x.pace(1), 500);
    }
}
