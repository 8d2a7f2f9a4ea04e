/** What is full: it takes no more, all of it counts, and it takes more when there is room again. */
public final class FullTest {
    private static final Due DUE = new Due("FullTest");
    private static final int BAD = ChoirWires.BAD, FULL = ChoirWires.FULL, NONE = ChoirWires.NONE;

    public static void main(String[] args) {
        rooms();
        roomsByImage();
        allRoomsCount();
        lossRows();
        tape();
        tapeByMany();
        sounds();
        beats();
        faultsOfFull();
        rounds();
        items();
        calls();
        DUE.end();
    }

    private static void rooms() {
        ChoirWires x = new ChoirWires();
        for (int i = 0; i < 8; i++) {
            DUE.is("2 the rooms come by number", x.room(i % 6), i);
        }
        for (int kind = 0; kind <= 5; kind++) {
            DUE.is("2 a ninth of kind " + kind, x.room(kind), FULL);
        }
        DUE.is("11 eight", x.count(0), 8);
        x.set(7, 0, 5);
        x.set(0, 0, 5);
        DUE.is("2 one that is cut is a room still", x.room(0), FULL);
    }

    private static void roomsByImage() {
        ChoirWires x = Choirs.meshed(9, 0, 0, 0, 0, 0, 0, 0);
        x.image(0);
        x.room(1);
        x.wire(7, 0, 5);
        x.wire(0, 7, 5);
        x.lose(7, 7, 0, true);
        for (int what = 0; what < 6; what++) {
            x.set(7, what, 1);
        }
        DUE.is("2 full", x.room(0), FULL);
        x.restore(0);
        DUE.is("31 no eighth then", x.wire(7, 0, 5), BAD);
        DUE.is("2 an eighth again", x.room(0), 7);
        DUE.is("4 without a wire to it", x.wire(0, 7, 0), 0);
        DUE.is("4 without a wire from it", x.wire(7, 0, 0), 0);
        DUE.is("21 without a lost word", x.lose(7, 7, 0, false), 0);
        int[] first = {0, 10, 50, 0, 0, 0};
        for (int what = 0; what < 6; what++) {
            DUE.is("3 new, what " + what, x.set(7, what, 0), first[what]);
        }
        DUE.is("2 full again", x.room(0), FULL);
    }

    /** The eighth room's wires are the greatest, the least, the last to be told. */
    private static void allRoomsCount() {
        ChoirWires x = Choirs.full();
        DUE.is("11 wires", x.count(2), 56);
        DUE.is("11 singing", x.count(1), 8);
        x.wire(7, 0, 400);
        DUE.is("12 held by the eighth", x.hold(0, 0), 400);
        DUE.is("12 it costs six", x.hold(0, 1), 6 * 391);
        DUE.is("13 the eighth is ahead", x.together(1, 7), 391);
        x.wire(7, 0, 1);
        DUE.is("12 the eighth costs", x.hold(0, 1), 8);
        DUE.is("13 all others are ahead", x.together(1, 1), 8);
        DUE.is("13 the eighth ear hears apart", Choirs.full().together(128, 8), NONE);
        x.wire(7, 0, 0);
        DUE.is("12 the eighth's is not there", x.hold(0, 0), NONE);
        DUE.is("13 the eighth's is not there", x.together(1, 8), 0);
        x.wire(7, 0, 9);
        x.set(7, 1, 99);
        DUE.is("10 the eighth is late", x.apart(1), 89);
        DUE.is("8 the mean of eight", x.paceAt(1), (7 * 514 + 603) / 8);
        x.set(7, 5, 63);
        DUE.is("23 all know all", x.knows(0, 1), 255);
        x.lose(1, 7, 0, true);
        DUE.is("23 but for the eighth", x.knows(0, 1), 127);
        DUE.is("22 so it waits", x.goes(0, 1), NONE);
    }

    private static void lossRows() {
        ChoirWires x = new ChoirWires();
        for (int row = 0; row < 8; row++) {
            DUE.is("24 the rows come by number", x.loss(row == 7 ? 3 : 0), row);
        }
        DUE.is("24 a ninth", x.loss(0), FULL);
        DUE.is("11 eight", x.count(5), 8);
        DUE.is("26 the eighth counts", x.group(), 1);
        DUE.is("25 the eighth", x.lost(7, 12), 3);
        DUE.is("27 all eight go", x.clear(), 8);
        DUE.is("24 there is room again", x.loss(1), 0);
        DUE.is("26 the eighth is gone", x.group(), 12);
        DUE.is("25 its number too", x.lost(7, 12), BAD);
    }

    private static void tape() {
        for (int n = 1; n <= 8; n++) {
            long blanks = Choirs.bytes(" ".repeat(n));
            ChoirWires x = new ChoirWires();
            Choirs.typed(x, " ".repeat(120 - n));
            DUE.is("14 " + n + " up to 120", x.type(blanks, n), 120);
            DUE.is("14 " + n + " behind 120", x.type(blanks, n), FULL);
            ChoirWires less = new ChoirWires();
            Choirs.typed(less, " ".repeat(121 - n));
            DUE.is("14 " + n + " up to 121", less.type(blanks, n), FULL);
            if (n > 1) {
                DUE.is("14 one fewer than " + n, less.type(blanks, n - 1), 120);
            }
        }
    }

    private static void tapeByMany() {
        ChoirWires x = new ChoirWires();
        for (int i = 1; i <= 120; i++) {
            DUE.is("14 byte by byte", x.type(i == 120 ? 'g' : ' ', 1), i);
        }
        DUE.is("14 a 121st", x.type('a', 1), FULL);
        DUE.is("15 the 120th is read, the 121st is not", x.piece(), 1);
        DUE.is("16 it is g", x.sound(0), 7);
        DUE.is("14 there is room again", Choirs.typed(x, " ".repeat(119) + "h"), 120);
        DUE.is("15 the last byte's fault", x.piece(), -20 - 119);
    }

    private static void sounds() {
        ChoirWires x = new ChoirWires();
        DUE.is("15 40 sounds in 120 bytes", Choirs.read(x, "a1.".repeat(40)), 40);
        DUE.is("11 40 breaths", x.count(4), 40);
        DUE.is("16 the 40th", x.sound(39), 11);
        DUE.is("15 39 and one", Choirs.read(x, "a".repeat(39) + "g"), 40);
        DUE.is("15 40 sounds of 64 beats", Choirs.read(x, "a2".repeat(24) + "b".repeat(16)), 64);
        DUE.is("15 a 41st", Choirs.read(x, "a".repeat(41)), -60);
        DUE.is("15 a 41st rest", Choirs.read(x, "a".repeat(40) + "-"), -60);
        DUE.is("15 a 41st behind blanks", Choirs.read(x, "a".repeat(40) + " . - 2"), -63);
        DUE.is("15 a 41st beyond 64 beats", Choirs.read(x, "a2".repeat(24) + "b".repeat(17)), -84);
        DUE.is("15 blanks behind the 40th", Choirs.read(x, "a".repeat(40) + "   "), 40);
        DUE.is("15 rests are sounds", Choirs.read(x, "-".repeat(40)), 40);
        DUE.is("15 rests are sounds, a 41st", Choirs.read(x, "-".repeat(41)), -60);
    }

    private static void beats() {
        ChoirWires x = new ChoirWires();
        DUE.is("15 64 by nines", Choirs.read(x, Choirs.LONGEST), 64);
        DUE.is("11 64", x.count(3), 64);
        DUE.is("11 its breath", x.count(4), 1);
        DUE.is("16 the last", x.sound(63), 11);
        DUE.is("16 none behind", x.sound(64), BAD);
        DUE.is("18 the greatest delay", x.clashes(63), 0);
        DUE.is("18 none greater", x.clashes(64), BAD);
        String nines = "a9".repeat(6);
        DUE.is("15 54 and 9", Choirs.read(x, nines + "b9"), 63);
        DUE.is("15 55 and 9", Choirs.read(x, nines + "bb9"), 64);
        DUE.is("15 56 and 9", Choirs.read(x, nines + "bbb9"), -20 - 14);
        DUE.is("15 56 and 8", Choirs.read(x, nines + "bbb8"), 64);
        DUE.is("15 56 and 8 rests", Choirs.read(x, nines + "bb-8."), 64);
        DUE.is("15 56 and 9 rests", Choirs.read(x, nines + "bb-9."), -20 - 14);
        DUE.is("11 the piece of 64 stays", x.count(3), 64);
        DUE.is("16 its last", x.sound(63), 10);
    }

    private static void faultsOfFull() {
        ChoirWires x = new ChoirWires();
        String full = "a9".repeat(7) + "b";
        DUE.is("15 a 65th", Choirs.read(x, full + "c"), -20 - 15);
        DUE.is("15 a 65th with a digit", Choirs.read(x, full + " c1"), -20 - 16);
        DUE.is("15 a 65th, what is behind it does not matter", Choirs.read(x, full + "c0"), -20 - 15);
        DUE.is("15 a digit of 2 for the 64th", Choirs.read(x, "a9".repeat(7) + "b2"), -20 - 14);
        DUE.is("15 that digit behind blanks", Choirs.read(x, "a9".repeat(7) + " b  2"), -20 - 15);
        DUE.is("15 a digit of 1 for the 64th", Choirs.read(x, "a9".repeat(7) + "b1"), 64);
        DUE.is("15 a second digit for the 64th", Choirs.read(x, "a9".repeat(7) + "b11"), -20 - 16);
        DUE.is("15 a first fault ahead of a 65th", Choirs.read(x, "h" + full + "c"), -20);
        DUE.is("15 a byte that never stands", Choirs.read(x, full + "h"), -20 - 15);
    }

    private static void rounds() {
        ChoirWires x = Choirs.of(0, 0);
        x.wire(0, 1, 1);
        for (int round = 1; round <= 7; round++) {
            x.lose(round, 0, 1, true);
        }
        DUE.is("23 lost in all rounds", x.knows(1, 7), 2);
        x.lose(7, 0, 1, false);
        DUE.is("23 it comes in the last", x.knows(1, 7), 3);
        DUE.is("23 not ahead of it", x.knows(1, 6), 2);
        DUE.is("22 it goes then", x.goes(1, 7), 0);
        DUE.is("22 not ahead of it", x.goes(1, 6), NONE);
        x.lose(1, 0, 1, false);
        DUE.is("23 it comes in the first", x.knows(1, 1), 3);
        DUE.is("23 not ahead of any", x.knows(1, 0), 2);
    }

    private static void items() {
        ChoirWires x = Choirs.full();
        for (int i = 0; i < 40; i++) {
            DUE.is("34 item " + i, x.item(1, 2, i, i == 39 ? 400 : 0), 1);
        }
        DUE.is("34 a 41st", x.item(1, 2, 40, 0), ChoirWires.INDEX);
        DUE.is("5 the last eight", x.wires(0, 1, 2, 32), 1);
        DUE.is("4 the 40th is the eighth's", x.wire(0, 7, 0), 400);
        DUE.is("35 all 40", x.copy(1, 0, 2, 0, 40), 40);
        DUE.is("5 the last eight of the other", x.wires(0, 2, 2, 32), 1);
        DUE.is("35 41", x.copy(1, 0, 2, 0, 41), ChoirWires.INDEX);
    }

    /** An object is good for 512 calls, whatever they are. */
    private static void calls() {
        ChoirWires x = Choirs.of(0, 0);
        int answers = 0;
        for (int call = 3; call < 512; call++) {
            answers += call % 2 == 0 ? x.image(call / 2 % 2) : x.sheet(call % 4, call % 3, 1);
        }
        DUE.is("the calls from the third on", answers, 509);
        DUE.is("the 512th call", x.count(0), 2);
    }
}
