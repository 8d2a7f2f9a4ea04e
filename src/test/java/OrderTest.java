/** Of several refusals a call answers the first that the document names for it. */
public final class OrderTest {
    private static final Due DUE = new Due("OrderTest");
    private static final int BAD = ChoirWires.BAD, NOT = ChoirWires.NOT, FULL = ChoirWires.FULL;
    private static final int NONE = ChoirWires.NONE, NULL = ChoirWires.NULL, CAST = ChoirWires.CAST;
    private static final int INDEX = ChoirWires.INDEX, SIZE = ChoirWires.SIZE;

    public static void main(String[] args) {
        badAheadOfFull();
        badAheadOfNone();
        badAheadOfTimeNone();
        together();
        notAheadOfNone();
        wiresBad();
        wiresByRow();
        sheet();
        item();
        copyBad();
        copyByRow();
        DUE.end();
    }

    private static void badAheadOfFull() {
        ChoirWires x = Choirs.full();
        DUE.is("2 BAD; FULL: kind 6", x.room(6), BAD);
        DUE.is("2 BAD; FULL: kind -1", x.room(-1), BAD);
        DUE.is("2 FULL alone", x.room(5), FULL);
        DUE.is("24 BAD; FULL: bit 48", x.loss(1L << 48), BAD);
        DUE.is("24 BAD; FULL: below 0", x.loss(Long.MIN_VALUE), BAD);
        DUE.is("24 FULL alone", x.loss(1L << 47), FULL);
        Choirs.typed(x, " ".repeat(120));
        DUE.is("14 BAD; FULL: n 9", x.type(0x6161616161616161L, 9), BAD);
        DUE.is("14 BAD; FULL: n 0", x.type('a', 0), BAD);
        DUE.is("14 BAD; FULL: byte 31", x.type(31, 1), BAD);
        DUE.is("14 BAD; FULL: byte 127 of eight", x.type(0x7F61616161616161L, 8), BAD);
        DUE.is("14 FULL alone", x.type('a', 1), FULL);
    }

    private static void badAheadOfNone() {
        ChoirWires x = Choirs.of(4, 5);
        DUE.is("8 BAD; NONE: beat 0", x.paceAt(0), BAD);
        DUE.is("8 BAD; NONE: beat 41", x.paceAt(41), BAD);
        DUE.is("8 NONE alone", x.paceAt(1), NONE);
        DUE.is("9 BAD; NONE: beat 0", x.slows(0, 0), BAD);
        DUE.is("9 BAD; NONE: beat 41", x.slows(41, 0), BAD);
        DUE.is("9 BAD; NONE: v -1", x.slows(1, -1), BAD);
        DUE.is("9 BAD; NONE: v 100000", x.slows(1, 100000), BAD);
        DUE.is("9 NONE alone", x.slows(1, 99999), NONE);
        DUE.is("10 BAD; NONE: beat -1", x.apart(-1), BAD);
        DUE.is("10 BAD; NONE: beat 41", x.apart(41), BAD);
        DUE.is("10 NONE alone", x.apart(0), NONE);
        DUE.is("12 BAD; NONE: what 2", x.hold(1, 2), BAD);
        DUE.is("12 BAD; NONE: what -1", x.hold(1, -1), BAD);
        DUE.is("12 NONE alone", x.hold(1, 1), NONE);
        DUE.is("19 BAD; NONE: no piece, i -1", x.canon(-1), BAD);
        DUE.is("19 NONE alone", x.canon(0), NONE);
        DUE.is("20 BAD; NONE: d 64, parted badly", x.sea(64, 63), BAD);
        DUE.is("20 BAD; NONE: d 0", x.sea(0, 40000), BAD);
        DUE.is("20 BAD; NONE: blinks 40001, above 2000", x.sea(1, 40001), BAD);
        DUE.is("20 BAD; NONE: blinks 0, no pace", x.sea(1, 0), BAD);
        DUE.is("20 BAD; NONE: blinks -1, parted badly", x.sea(2, -1), BAD);
        DUE.is("20 NONE alone", x.sea(1, 40000), NONE);
        DUE.is("22 BAD; NONE: n 8 of a cut one", x.goes(1, 8), BAD);
        DUE.is("22 BAD; NONE: n -1 of a cut one", x.goes(1, -1), BAD);
        DUE.is("22 NONE alone", x.goes(1, 7), NONE);
        DUE.is("31 BAD; NONE: image 2", x.restore(2), BAD);
        DUE.is("31 BAD; NONE: image -1", x.restore(-1), BAD);
        DUE.is("31 NONE alone", x.restore(1), NONE);
    }

    private static void badAheadOfTimeNone() {
        ChoirWires x = Choirs.of(4, 5);
        for (int room = 0; room < 2; room++) {
            DUE.is("7 BAD; NONE: beat -1", x.time(room, -1), -1000001);
            DUE.is("7 BAD; NONE: beat 41", x.time(room, 41), -1000001);
            DUE.is("7 NONE alone", x.time(room, 40), -1000004);
        }
        DUE.is("7 BAD alone", x.time(2, 0), -1000001);
    }

    private static void together() {
        ChoirWires x = Choirs.of(0, 4, 0, 5);
        DUE.is("13 BAD; NOT: no ears, a silent room", x.together(0, 1), BAD);
        DUE.is("13 BAD; NOT: an ear that is not there, a silent room", x.together(17, 1), BAD);
        DUE.is("13 BAD; NOT: an ear that is not there, the room is an ear", x.together(17, 0), BAD);
        DUE.is("13 BAD; NONE: no ears", x.together(0, 0), BAD);
        DUE.is("13 BAD; NONE: an ear that is not there", x.together(18, 0), BAD);
        DUE.is("13 BAD; NONE: what 9", x.together(1, 9), BAD);
        DUE.is("13 BAD; NONE: what -1", x.together(1, -1), BAD);
        DUE.is("13 BAD; NONE: a room that is not there", x.together(1, 4), BAD);
        DUE.is("13 NOT; NONE: a silent room, no wires", x.together(1, 1), NOT);
        DUE.is("13 NOT; NONE: a cut room, no wires", x.together(1, 3), NOT);
        DUE.is("13 NOT; NONE: the room is an ear, no wires", x.together(1, 0), NOT);
        DUE.is("13 NOT; NONE: a silent ear, no wires", x.together(2, 1), NOT);
        DUE.is("13 NONE alone", x.together(1, 2), NONE);
    }

    private static void notAheadOfNone() {
        DUE.is("29 NOT; NONE: one room, no wires", Choirs.of(0).net(), NOT);
        DUE.is("29 NOT; NONE: seven rooms, no wires", Choirs.of(0, 0, 0, 0, 0, 0, 0).net(), NOT);
        DUE.is("29 NONE alone: two rooms", Choirs.of(0, 0).net(), NONE);
        DUE.is("29 NONE alone: six rooms", Choirs.of(0, 0, 0, 0, 0, 0).net(), NONE);
    }

    private static void wiresBad() {
        ChoirWires x = Choirs.of(0, 0);
        x.sheet(0, 1, 3);
        x.item(0, 1, 0, 401);
        DUE.is("5 BAD; NULL: no room", x.wires(2, 1, 1, 0), BAD);
        DUE.is("5 BAD; NULL: no lane", x.wires(0, 1, 3, 0), BAD);
        DUE.is("5 BAD; NULL: lane -1", x.wires(0, 1, -1, 0), BAD);
        DUE.is("5 BAD; CAST: no room", x.wires(2, 0, 2, 0), BAD);
        DUE.is("5 BAD; CAST: no lane", x.wires(0, 0, 3, 0), BAD);
        DUE.is("5 BAD; INDEX: no room", x.wires(2, 0, 1, 9), BAD);
        DUE.is("5 BAD; INDEX: no sheet", x.wires(0, 4, 1, 9), BAD);
        DUE.is("5 BAD; NOT: no room", x.wires(-1, 0, 1, 0), BAD);
        DUE.is("5 BAD; all others", x.wires(2, -1, 3, -1), BAD);
    }

    private static void wiresByRow() {
        ChoirWires x = Choirs.of(0, 0);
        x.sheet(0, 1, 3);
        for (int i = 0; i < 3; i++) {
            x.item(0, 1, i, 401);
        }
        DUE.is("5 NULL; INDEX: too far", x.wires(0, 1, 1, 2), NULL);
        DUE.is("5 NULL; INDEX: below 0", x.wires(0, 1, 1, -1), NULL);
        DUE.is("5 CAST; INDEX: too far", x.wires(0, 0, 2, 2), CAST);
        DUE.is("5 CAST; INDEX: below 0", x.wires(0, 0, 0, -1), CAST);
        DUE.is("5 CAST; NOT", x.wires(0, 0, 2, 0), CAST);
        DUE.is("5 INDEX; NOT: the first is 401, the last is not there", x.wires(1, 0, 1, 2), INDEX);
        DUE.is("5 INDEX; NOT: its own is 401, the last is not there", x.wires(0, 0, 1, 2), INDEX);
        DUE.is("5 INDEX; NOT: the first is not there", x.wires(0, 0, 1, -1), INDEX);
        DUE.is("5 NOT alone", x.wires(0, 0, 1, 1), NOT);
        x.sheet(2, 2, 0);
        DUE.is("5 CAST; INDEX: of a row of none", x.wires(0, 2, 1, 0), CAST);
    }

    private static void sheet() {
        ChoirWires x = new ChoirWires();
        DUE.is("32 BAD; SIZE: sheet 4", x.sheet(4, 0, -1), BAD);
        DUE.is("32 BAD; SIZE: sheet -1", x.sheet(-1, 0, -1), BAD);
        DUE.is("32 BAD; SIZE: lane 3", x.sheet(0, 3, -1), BAD);
        DUE.is("32 BAD; SIZE: lane -1", x.sheet(0, -1, Integer.MIN_VALUE), BAD);
        DUE.is("32 SIZE alone", x.sheet(0, 0, -1), SIZE);
    }

    private static void item() {
        ChoirWires x = new ChoirWires();
        x.sheet(0, 1, 3);
        DUE.is("34 BAD; NULL: lane 3", x.item(1, 3, 0, 0), BAD);
        DUE.is("34 BAD; NULL: lane -1", x.item(1, -1, 0, 0), BAD);
        DUE.is("34 BAD; CAST: lane 3", x.item(0, 3, 0, 0), BAD);
        DUE.is("34 BAD; INDEX: sheet 4", x.item(4, 1, 3, 0), BAD);
        DUE.is("34 BAD; INDEX: lane 3", x.item(0, 3, 3, 0), BAD);
        DUE.is("34 NULL; INDEX: too far", x.item(1, 1, 3, 0), NULL);
        DUE.is("34 NULL; INDEX: below 0", x.item(1, 1, -1, 0), NULL);
        DUE.is("34 CAST; INDEX: too far", x.item(0, 2, 3, 0), CAST);
        DUE.is("34 CAST; INDEX: below 0", x.item(0, 0, -1, 0), CAST);
        DUE.is("34 INDEX alone", x.item(0, 1, 3, 0), INDEX);
        x.sheet(2, 2, 0);
        DUE.is("34 CAST; INDEX: of a row of none", x.item(2, 0, 0, 0), CAST);
    }

    private static void copyBad() {
        ChoirWires x = new ChoirWires();
        x.sheet(0, 1, 3);
        DUE.is("35 BAD; NULL: from 4 to nothing", x.copy(4, 0, 1, 0, 1), BAD);
        DUE.is("35 BAD; NULL: from nothing to 4", x.copy(1, 0, 4, 0, 1), BAD);
        DUE.is("35 BAD; INDEX: from -1", x.copy(-1, 0, 0, 0, 4), BAD);
        DUE.is("35 BAD; INDEX: to -1", x.copy(0, 0, -1, 0, 4), BAD);
        DUE.is("35 BAD; INDEX: n -1", x.copy(0, 0, 4, 0, -1), BAD);
    }

    private static void copyByRow() {
        ChoirWires x = new ChoirWires();
        x.sheet(0, 1, 3);
        x.sheet(2, 2, 3);
        x.sheet(3, 1, 3);
        DUE.is("35 NULL; INDEX: from nothing, i", x.copy(1, 9, 0, 0, 1), NULL);
        DUE.is("35 NULL; INDEX: from nothing, j", x.copy(1, 0, 0, 9, 1), NULL);
        DUE.is("35 NULL; INDEX: from nothing, n", x.copy(1, 0, 0, 0, -1), NULL);
        DUE.is("35 NULL; INDEX: to nothing, i", x.copy(0, 9, 1, 0, 1), NULL);
        DUE.is("35 NULL; INDEX: to nothing, j", x.copy(0, 0, 1, 9, 1), NULL);
        DUE.is("35 NULL; INDEX: to nothing, n", x.copy(0, 0, 1, 0, 4), NULL);
        DUE.is("35 CAST; INDEX: i", x.copy(0, 9, 2, 0, 1), CAST);
        DUE.is("35 CAST; INDEX: j", x.copy(0, 0, 2, -1, 1), CAST);
        DUE.is("35 CAST; INDEX: n", x.copy(2, 0, 0, 0, -1), CAST);
        DUE.is("35 CAST; INDEX: too many", x.copy(2, 0, 0, 0, 4), CAST);
        DUE.is("35 INDEX alone", x.copy(0, 0, 3, 0, 4), INDEX);
        for (int one = 0; one < 3; one++) {
            for (int other = 0; other < 3; other++) {
                x.sheet(0, one, 3);
                x.sheet(3, other, 3);
                DUE.is("35 lane " + one + " to lane " + other, x.copy(0, 0, 3, 0, 0), one == other ? 0 : CAST);
            }
        }
    }
}
