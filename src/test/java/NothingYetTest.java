/** What calls answer where there is nothing yet, or nothing any more. */
public final class NothingYetTest {
    private static final Due DUE = new Due("NothingYetTest");
    private static final int BAD = ChoirWires.BAD, NOT = ChoirWires.NOT, NONE = ChoirWires.NONE;
    private static final int NULL = ChoirWires.NULL, INDEX = ChoirWires.INDEX;

    public static void main(String[] args) {
        noRooms();
        noWires();
        noLostWords();
        nobodySings();
        allAreCut();
        noPiece();
        emptyTape();
        noLossRows();
        sheetsOfNothing();
        sheetsOfNoItems();
        sheetsOfZeros();
        noImage();
        DUE.end();
    }

    private static void noRooms() {
        ChoirWires x = new ChoirWires();
        DUE.is("1 no rooms", x.count(0), 0);
        DUE.is("1 none sings", x.count(1), 0);
        DUE.is("1 no wires", x.count(2), 0);
        DUE.is("3 set", x.set(0, 0, 0), BAD);
        DUE.is("4 wire", x.wire(0, 1, 1), BAD);
        x.sheet(0, 2, 40);
        DUE.is("5 wires", x.wires(0, 0, 2, 0), BAD);
        DUE.is("7 time", x.time(0, 0), -1000001);
        DUE.is("8 paceAt", x.paceAt(1), NONE);
        DUE.is("9 slows", x.slows(1, 0), NONE);
        DUE.is("10 apart", x.apart(0), NONE);
        DUE.is("12 hold", x.hold(0, 0), BAD);
        DUE.is("13 together", x.together(1, 8), BAD);
        DUE.is("13 together, room 0", x.together(1, 0), BAD);
        DUE.is("13 no ears of no rooms", x.together(0, 8), BAD);
        DUE.is("21 lose", x.lose(1, 0, 1, true), BAD);
        DUE.is("22 goes", x.goes(0, 0), BAD);
        DUE.is("23 knows", x.knows(0, 0), BAD);
        DUE.is("29 net", x.net(), NOT);
        DUE.is("6 pace at first", x.pace(500), 500);
        DUE.is("28 most at first", x.most(7), 7);
    }

    private static void noWires() {
        ChoirWires x = Choirs.of(0, 3, 1, 2);
        for (int from = 0; from < 4; from++) {
            for (int to = 0; to < 4; to++) {
                DUE.is("4 at first none", x.wire(from, to, 0), from == to ? BAD : 0);
            }
        }
        DUE.is("7 a follower hears none", x.time(0, 40), 40 * 510);
        x.set(1, 4, 400);
        x.set(1, 2, 100);
        DUE.is("7 a guessing one hears none, its guess is for nothing", x.time(1, 40), 40 * 510);
        DUE.is("9 no wire takes longer", x.slows(40, 504), 1);
        DUE.is("9 so it slows at once or never", x.slows(40, 505), NONE);
        DUE.is("12 a wire from others is not there", x.hold(0, 0), NONE);
        DUE.is("12 nor is a cost", x.hold(0, 1), NONE);
        DUE.is("13 no wire to the ear", x.together(1, 8), 0);
        DUE.is("13 the first ear without", x.together(14, 8), 1);
        DUE.is("13 it can't be", x.together(1, 1), NONE);
        DUE.is("23 nobody tells", x.knows(3, 7), 8);
        DUE.is("22 all wait", x.goes(3, 7), NONE);
        DUE.is("29 no pairs", x.net(), NONE);
    }

    private static void noLostWords() {
        ChoirWires x = Choirs.of(0, 0, 0, 0, 0, 0, 0, 0);
        for (int round = 1; round <= 7; round++) {
            for (int from = 0; from < 8; from++) {
                for (int to = 0; to < 8; to++) {
                    DUE.is("21 none at first, round " + round, x.lose(round, from, to, false), from == to ? BAD : 0);
                }
            }
        }
    }

    private static void nobodySings() {
        ChoirWires x = Choirs.meshed(9, 4, 5, 4);
        DUE.is("11 none sings", x.count(1), 0);
        DUE.is("7 a silent one has no time", x.time(0, 0), -1000004);
        DUE.is("7 a cut one has no time", x.time(1, 0), -1000004);
        DUE.is("8 paceAt", x.paceAt(40), NONE);
        DUE.is("9 slows", x.slows(40, 0), NONE);
        DUE.is("10 apart", x.apart(40), NONE);
        DUE.is("12 nothing is held", x.hold(0, 0), 0);
        DUE.is("12 it costs nothing", x.hold(0, 1), 0);
        DUE.is("12 but for a cut one", x.hold(1, 0), NONE);
        DUE.is("12 and its cost", x.hold(1, 1), NONE);
        DUE.is("13 it can, for a cut ear too", x.together(7, 8), NONE);
        DUE.is("13 nobody is ahead", x.together(1, 2), NOT);
        x.wire(0, 2, 0);
        DUE.is("13 it can, without a wire", x.together(5, 8), NONE);
        x.set(2, 0, 0);
        DUE.is("8 one sings", x.paceAt(40), 510);
        DUE.is("10 one alone is not apart", x.apart(40), 0);
        DUE.is("12 it alone holds nothing", x.hold(2, 0), 0);
        DUE.is("12 it is held by others", x.hold(0, 0), 9);
        DUE.is("13 now the cut ear can't", x.together(3, 8), 1);
        DUE.is("13 alone it is ahead by none", x.together(1, 2), 0);
        DUE.is("13 it is the only one and an ear", x.together(6, 8), NONE);
    }

    private static void allAreCut() {
        ChoirWires x = Choirs.meshed(9, 5, 5, 5);
        DUE.is("22 a cut one waits", x.goes(0, 0), NONE);
        DUE.is("23 and knows itself alone", x.knows(2, 7), 4);
        DUE.is("29 nobody to join", x.net(), NOT);
        x.set(0, 0, 4);
        DUE.is("22 one that is not goes at once", x.goes(0, 0), 0);
        DUE.is("23 and knows itself", x.knows(0, 7), 1);
        DUE.is("29 one alone", x.net(), NOT);
    }

    private static void noPiece() {
        ChoirWires x = Choirs.of(0);
        DUE.is("11 no beats", x.count(3), 0);
        DUE.is("11 no breaths", x.count(4), 0);
        DUE.is("16 sound", x.sound(0), BAD);
        DUE.is("18 clashes", x.clashes(1), BAD);
        DUE.is("18 clashes(0)", x.clashes(0), BAD);
        DUE.is("19 canon", x.canon(0), NONE);
        DUE.is("17 fit at first", x.fit(21), 21);
        DUE.is("20 sea needs none", x.sea(2, 8), 4);
        x.set(0, 5, 63);
        DUE.is("22 no breath to go on from", x.goes(0, 0), 0);
        Choirs.read(x, "a.a");
        DUE.is("22 one to go on from", x.goes(0, 0), 1);
        DUE.is("19 a delay", x.canon(0), 1);
    }

    private static void emptyTape() {
        ChoirWires x = new ChoirWires();
        DUE.is("15 at first", x.piece(), -20);
        DUE.is("15 again", x.piece(), -20);
        DUE.is("14 the first byte", x.type('a', 1), 1);
        DUE.is("15 one beat", x.piece(), 1);
        DUE.is("15 empty behind a piece", x.piece(), -20);
        DUE.is("11 the piece stays", x.count(3), 1);
        x.type('h', 1);
        DUE.is("15 a fault", x.piece(), -20);
        DUE.is("14 empty behind a fault", x.type('b', 1), 1);
        DUE.is("15 one more piece", x.piece(), 1);
        DUE.is("16 it is the new one", x.sound(0), 2);
        Choirs.typed(x, "     ");
        DUE.is("15 blanks alone, the end", x.piece(), -25);
        DUE.is("15 empty behind them", x.piece(), -20);
        Choirs.typed(x, " ".repeat(120));
        DUE.is("15 120 blanks, the end", x.piece(), -140);
        DUE.is("16 the piece stays", x.sound(0), 2);
    }

    private static void noLossRows() {
        ChoirWires x = new ChoirWires();
        DUE.is("11 no rows", x.count(5), 0);
        DUE.is("25 lost", x.lost(0, 1), BAD);
        DUE.is("26 nothing is lost by 12", x.group(), 12);
        DUE.is("27 none go", x.clear(), 0);
        x.loss(0);
        DUE.is("25 a row of nothing", x.lost(0, 1), 0);
        DUE.is("26 nothing is lost of it", x.group(), 12);
        DUE.is("11 it is a row", x.count(5), 1);
        DUE.is("27 it goes", x.clear(), 1);
        DUE.is("25 lost then", x.lost(0, 1), BAD);
        DUE.is("27 none go then", x.clear(), 0);
        DUE.is("24 the next is the first", x.loss(3), 0);
    }

    private static void sheetsOfNothing() {
        ChoirWires x = Choirs.of(0);
        for (int sheet = 0; sheet < 4; sheet++) {
            for (int lane = 0; lane < 3; lane++) {
                DUE.is("5 wires", x.wires(0, sheet, lane, 0), NULL);
                DUE.is("34 item", x.item(sheet, lane, 0, 0), NULL);
            }
            DUE.is("33 drop", x.drop(sheet), NULL);
            DUE.is("35 copy to itself", x.copy(sheet, 0, sheet, 0, 0), NULL);
        }
        x.sheet(0, 2, 5);
        DUE.is("35 from nothing", x.copy(1, 0, 0, 0, 0), NULL);
        DUE.is("35 to nothing", x.copy(0, 0, 1, 0, 0), NULL);
        DUE.is("33 drop of a row", x.drop(0), 5);
        DUE.is("33 drop again", x.drop(0), NULL);
        DUE.is("34 item then", x.item(0, 2, 0, 0), NULL);
        DUE.is("5 wires then", x.wires(0, 0, 2, 0), NULL);
        DUE.is("35 copy then", x.copy(0, 0, 0, 0, 0), NULL);
    }

    private static void sheetsOfNoItems() {
        ChoirWires x = Choirs.of(0);
        for (int lane = 0; lane < 3; lane++) {
            DUE.is("32 a row of none", x.sheet(0, lane, 0), 0);
            DUE.is("5 wires", x.wires(0, 0, lane, 0), INDEX);
            DUE.is("34 item", x.item(0, lane, 0, 0), INDEX);
            DUE.is("35 copy of none", x.copy(0, 0, 0, 0, 0), 0);
            DUE.is("35 copy of one", x.copy(0, 0, 0, 0, 1), INDEX);
            DUE.is("33 it is a row", x.drop(0), 0);
            DUE.is("33 then it is none", x.drop(0), NULL);
        }
    }

    /** What an earlier row had, of whichever lane, is not in a new one. */
    private static void sheetsOfZeros() {
        ChoirWires x = Choirs.of(0, 0, 0, 0, 0, 0, 0, 0);
        for (int pass = 0; pass < 6; pass++) {
            int lane = pass % 3;
            fillWith77(x, (lane + 2) % 3);
            if (pass == 1) {
                x.drop(0);
            }
            x.sheet(0, lane, 40);
            allZeros("32 items at first, lane " + lane, x, lane);
            fillWith77(x, lane);
            x.sheet(0, lane, 3);
            x.sheet(0, lane, 40);
            allZeros("32 items at first again, lane " + lane, x, lane);
        }
    }

    private static void fillWith77(ChoirWires x, int lane) {
        for (int i = 0; i < 40; i++) {
            x.item(0, lane, i, 77);
        }
    }

    private static void allZeros(String name, ChoirWires x, int lane) {
        for (int i = 0; i <= 32; i += 8) {
            DUE.is(name, x.wires(7, 0, lane, i), 0);
        }
    }

    private static void noImage() {
        ChoirWires x = Choirs.of(0);
        DUE.is("31 none was kept in 0", x.restore(0), NONE);
        DUE.is("31 none was kept in 1", x.restore(1), NONE);
        DUE.is("31 nothing is gone by that", x.count(0), 1);
        ChoirWires empty = new ChoirWires();
        DUE.is("30 an image of nothing", empty.image(1), 1);
        DUE.is("31 none was kept in 0 still", empty.restore(0), NONE);
        Choirs.read(empty, "a.");
        empty.room(0);
        empty.loss(1);
        DUE.is("31 back to nothing", empty.restore(1), 1);
        for (int what = 0; what < 6; what++) {
            DUE.is("31 count(" + what + ")", empty.count(what), 0);
        }
        DUE.is("16 no piece", empty.sound(0), BAD);
        DUE.is("25 no row", empty.lost(0, 1), BAD);
    }
}
