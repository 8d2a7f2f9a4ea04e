import java.util.function.IntUnaryOperator;

/**
 * Every number that a call is told: the least and the greatest that may be, and the ones outside.
 * Each is asked of an object of its own.
 */
public final class BoundsTest {
    private static final Due DUE = new Due("BoundsTest");
    private static final int BAD = ChoirWires.BAD, NONE = ChoirWires.NONE, INDEX = ChoirWires.INDEX;
    private static final int NO_TIME = -1000001;

    public static void main(String[] args) {
        room();
        set();
        wire();
        wires();
        pace();
        times();
        hold();
        type();
        piece();
        sea();
        stops();
        losses();
        nets();
        images();
        sheets();
        items();
        copies();
        DUE.end();
    }

    private static void ends(String name, IntUnaryOperator call, int least, int atLeast, int most, int atMost) {
        ends(name, call, least, atLeast, most, atMost, BAD);
    }

    private static void ends(String name, IntUnaryOperator call, int least, int atLeast, int most, int atMost,
            int refusal) {
        DUE.is(name + ": the least, " + least, call.applyAsInt(least), atLeast);
        DUE.is(name + ": the greatest, " + most, call.applyAsInt(most), atMost);
        outside(name, call, least, most, refusal);
    }

    private static void outside(String name, IntUnaryOperator call, int least, int most, int refusal) {
        below(name, call, least, refusal);
        above(name, call, most, refusal);
    }

    /** Also such as would be inside again, if only their lowest bits were looked at. */
    private static void below(String name, IntUnaryOperator call, int least, int refusal) {
        int[] outside = {least - 1, least - 32, least - 256, least - 65536, Integer.MIN_VALUE};
        for (int v : outside) {
            DUE.is(name + ": below, " + v, call.applyAsInt(v), refusal);
        }
    }

    private static void above(String name, IntUnaryOperator call, int most, int refusal) {
        int[] outside = {most + 1, most + 32, most + 256, most + 65536, Integer.MAX_VALUE};
        for (int v : outside) {
            DUE.is(name + ": above, " + v, call.applyAsInt(v), refusal);
        }
    }

    private static ChoirWires full() {
        return Choirs.full();
    }

    private static ChoirWires single() {
        return Choirs.single();
    }

    private static void room() {
        ends("2 room: kind", v -> new ChoirWires().room(v), 0, 0, 5, 0);
        for (int kind = 0; kind <= 5; kind++) {
            DUE.is("2 room: kind " + kind, Choirs.of(kind).set(0, 0, 0), kind);
        }
    }

    private static void set() {
        ends("3 set: room of 8", v -> full().set(v, 1, 0), 0, 10, 7, 10);
        ends("3 set: room of 1", v -> single().set(v, 1, 0), 0, 10, 0, 10);
        ends("3 set: what", v -> full().set(0, v, 0), 0, 0, 5, 0);
        ends("3 set: KIND", v -> full().set(0, 0, v), 0, 0, 5, 0);
        ends("3 set: LATE", v -> full().set(0, 1, v), 0, 10, 99, 10);
        ends("3 set: PULL", v -> full().set(0, 2, v), 0, 50, 100, 50);
        ends("3 set: EARLY", v -> full().set(0, 3, v), 0, 0, 999, 0);
        ends("3 set: GUESS", v -> full().set(0, 4, v), 0, 0, 400, 0);
        ends("3 set: BEAT", v -> full().set(0, 5, v), 0, 0, 63, 0);
        int[] most = {5, 99, 100, 999, 400, 63};
        for (int what = 0; what < most.length; what++) {
            ChoirWires x = full();
            x.set(7, what, most[what]);
            DUE.is("3 set: the greatest of what " + what + " is there", x.set(7, what, 0), most[what]);
            DUE.is("3 set: the least of what " + what + " is there", x.set(7, what, 0), 0);
        }
    }

    private static void wire() {
        ends("4 wire: from of 8", v -> full().wire(v, 3, 1), 0, 9, 7, 9);
        ends("4 wire: to of 8", v -> full().wire(3, v, 1), 0, 9, 7, 9);
        ends("4 wire: from of 2", v -> Choirs.of(0, 0).wire(v, 1 - v, 1), 0, 0, 1, 0);
        ends("4 wire: blinks", v -> full().wire(0, 7, v), 0, 9, 400, 9);
        for (int room = 0; room < 8; room++) {
            DUE.is("4 wire: one room, " + room, full().wire(room, room, 1), BAD);
        }
        DUE.is("4 wire: to of 1", single().wire(0, 1, 1), BAD);
        DUE.is("4 wire: from of 1", single().wire(1, 0, 1), BAD);
    }

    private static void wires() {
        ends("5 wires: from of 8", v -> full().wires(v, 0, 2, 0), 0, 0, 7, 0);
        ends("5 wires: from of 1", v -> single().wires(v, 0, 0, 0), 0, 0, 0, 0);
        ends("5 wires: sheet", v -> full().wires(0, v, 2, 0), 0, 0, 3, 0);
        ends("5 wires: lane", v -> ofLane(v).wires(0, 0, v, 0), 0, 0, 2, 0);
        outside("5 wires: i, 8 of 40", v -> full().wires(0, 0, 2, v), 0, 32, INDEX);
        DUE.is("5 wires: i 0, 8 of 40", full().wires(0, 0, 2, 0), 0);
        DUE.is("5 wires: i 32, 8 of 40", full().wires(0, 0, 2, 32), 0);
        outside("5 wires: i, 1 of 1", v -> single().wires(0, 0, 0, v), 0, 0, INDEX);
        outside("5 wires: i, 8 of 7", v -> shortRow().wires(0, 0, 2, v), 0, -1, INDEX);
        outside("5 wires: i, 8 of 7, at its end", v -> shortRow().wires(0, 0, 2, v), 7, 7, INDEX);
        ends("5 wires: an item of ints", v -> byItem(2, v), 0, 0, 400, 1, ChoirWires.NOT);
        ends("5 wires: its own", v -> byOwnItem(v), 0, 0, 0, 0, ChoirWires.NOT);
        DUE.is("5 wires: the greatest short", byItem(1, 400), 1);
        DUE.is("5 wires: above it", byItem(1, 401), ChoirWires.NOT);
        DUE.is("5 wires: the greatest byte", byItem(0, 127), 1);
        DUE.is("5 wires: above it", byItem(0, 128), ChoirWires.NOT);
    }

    /** A room, and a sheet of the lane, if there is such; else of bytes. */
    private static ChoirWires ofLane(int lane) {
        ChoirWires x = single();
        x.sheet(0, lane, 1);
        return x;
    }

    private static ChoirWires shortRow() {
        ChoirWires x = full();
        x.sheet(0, 2, 7);
        return x;
    }

    private static int byItem(int lane, int v) {
        ChoirWires x = Choirs.of(0, 0, 0);
        x.sheet(1, lane, 3);
        x.item(1, lane, 2, v);
        return x.wires(0, 1, lane, 0);
    }

    private static int byOwnItem(int v) {
        ChoirWires x = Choirs.of(0, 0, 0);
        x.sheet(1, 2, 3);
        x.item(1, 2, 2, v);
        return x.wires(2, 1, 2, 0);
    }

    private static void pace() {
        ends("6 pace", v -> new ChoirWires().pace(v), 1, 500, 2000, 500);
        ends("11 count: what", v -> full().count(v), 0, 8, 5, 8);
    }

    private static void times() {
        ends("7 time: room of 8", v -> full().time(v, 1), 0, 514, 7, 514, NO_TIME);
        ends("7 time: room of 1", v -> single().time(v, 1), 0, 510, 0, 510, NO_TIME);
        ends("7 time: beat", v -> full().time(0, v), 0, 0, 40, 40 * 514, NO_TIME);
        ends("8 paceAt: beat", v -> full().paceAt(v), 1, 514, 40, 514);
        ends("9 slows: beat", v -> full().slows(v, 513), 1, 8, 40, 8);
        ends("9 slows: v", v -> full().slows(1, v), 0, 1, 99999, NONE);
        ends("10 apart: beat", v -> full().apart(v), 0, 0, 40, 0);
    }

    private static void hold() {
        ends("12 hold: room of 8", v -> full().hold(v, 0), 0, 9, 7, 9);
        ends("12 hold: room of 1", v -> single().hold(v, 0), 0, 0, 0, 0);
        ends("12 hold: what", v -> full().hold(0, v), 0, 9, 1, 0);
        ends("13 together: ears of 8", v -> full().together(v, 8), 1, NONE, 255, NONE);
        ends("13 together: ears of 1", v -> single().together(v, 8), 1, NONE, 1, NONE);
        ends("13 together: what", v -> full().together(2, v), 0, 0, 8, NONE);
        ends("13 together: a room of 2", v -> Choirs.meshed(9, 0, 0).together(2, v), 0, 0, 8, NONE);
        for (int room = 2; room < 8; room++) {
            DUE.is("13 together: no room " + room, Choirs.meshed(9, 0, 0).together(2, room), BAD);
        }
        for (int bit = 0; bit < 32; bit++) {
            DUE.is("13 together: ear " + bit + " of 8", full().together(1 << bit, 8), bit < 8 ? NONE : BAD);
            DUE.is("13 together: ears 0 and " + bit + " of 2", Choirs.meshed(9, 0, 0).together(1 << bit | 1, 8),
                bit < 2 ? NONE : BAD);
        }
    }

    private static void type() {
        ends("14 type: n", v -> new ChoirWires().type(0x6161616161616161L, v), 1, 1, 8, 8);
        for (int place = 0; place < 8; place++) {
            for (int b = 0; b < 256; b++) {
                long w = 0x6161616161616161L & ~(255L << 8 * place) | (long) b << 8 * place;
                int want = b >= 32 && b <= 126 ? 8 : BAD;
                DUE.is("14 type: byte " + b + " at " + place, new ChoirWires().type(w, 8), want);
            }
            long beyond = 0x6161616161616161L | 255L << 8 * place;
            for (int n = 1; n <= place; n++) {
                DUE.is("14 type: bytes above " + n + " do not count", new ChoirWires().type(beyond, n), n);
            }
        }
    }

    private static void piece() {
        ends("16 sound: of 64", v -> full().sound(v), 0, 1, 63, 11);
        ends("16 sound: of 1", v -> single().sound(v), 0, 1, 0, 1);
        ends("17 fit", v -> new ChoirWires().fit(v), 0, 21, 127, 21);
        ends("18 clashes: of 64", v -> full().clashes(v), 1, 7, 63, 0);
        ends("18 clashes: of 2", v -> ofText("ab").clashes(v), 1, 1, 1, 1);
        outside("18 clashes: of 1 there is no delay", v -> single().clashes(v), 1, 0, BAD);
        below("19 canon: i", v -> full().canon(v), 0, BAD);
        above("19 canon: i", v -> ofText("ababa").canon(v), 1, NONE);
        DUE.is("19 canon: the least i", ofText("ababa").canon(0), 2);
        DUE.is("19 canon: the greatest i", ofText("ababa").canon(1), 4);
    }

    private static ChoirWires ofText(String text) {
        ChoirWires x = new ChoirWires();
        Choirs.read(x, text);
        return x;
    }

    private static void sea() {
        ends("20 sea: d", v -> new ChoirWires().sea(v, 63), 1, 63, 63, 1);
        ends("20 sea: blinks, by 1", v -> new ChoirWires().sea(1, v), 1, 1, 40000, NONE);
        ends("20 sea: blinks, by 20", v -> new ChoirWires().sea(20, v), 1, NONE, 40000, 2000);
    }

    private static void stops() {
        ends("21 lose: round", v -> full().lose(v, 0, 7, true), 1, 0, 7, 0);
        ends("21 lose: from of 8", v -> full().lose(1, v, 3, true), 0, 0, 7, 0);
        ends("21 lose: to of 8", v -> full().lose(1, 3, v, true), 0, 0, 7, 0);
        ends("21 lose: from of 2", v -> Choirs.of(0, 0).lose(1, v, 1 - v, true), 0, 0, 1, 0);
        for (int room = 0; room < 8; room++) {
            DUE.is("21 lose: one room, " + room, full().lose(1, room, room, true), BAD);
        }
        ends("22 goes: room of 8", v -> full().goes(v, 1), 0, 0, 7, 0);
        ends("22 goes: room of 1", v -> single().goes(v, 0), 0, 0, 0, 0);
        ends("22 goes: n", v -> full().goes(0, v), 0, NONE, 7, 0);
        ends("23 knows: room of 8", v -> full().knows(v, 1), 0, 255, 7, 255);
        ends("23 knows: room of 1", v -> single().knows(v, 1), 0, 1, 0, 1);
        ends("23 knows: n", v -> full().knows(0, v), 0, 1, 7, 255);
    }

    private static void losses() {
        for (int bit = 0; bit < 64; bit++) {
            DUE.is("24 loss: bit " + bit, new ChoirWires().loss(1L << bit), bit < 48 ? 0 : BAD);
            DUE.is("24 loss: bits 0 and " + bit, new ChoirWires().loss(1L << bit | 1), bit < 48 ? 0 : BAD);
        }
        DUE.is("24 loss: no bits", new ChoirWires().loss(0), 0);
        DUE.is("24 loss: all 48", new ChoirWires().loss((1L << 48) - 1), 0);
        DUE.is("24 loss: all 49", new ChoirWires().loss((1L << 49) - 1), BAD);
        DUE.is("24 loss: all 63", new ChoirWires().loss(Long.MAX_VALUE), BAD);
        DUE.is("24 loss: all 64", new ChoirWires().loss(-1), BAD);
        ends("25 lost: row of 8", v -> full().lost(v, 1), 0, 0, 7, 0);
        ends("25 lost: row of 1", v -> single().lost(v, 1), 0, 0, 0, 0);
        ends("25 lost: g", v -> full().lost(0, v), 1, 0, 12, 0);
        ends("28 most", v -> full().most(v), 1, 7, 7, 7);
    }

    private static void nets() {
        int[] want = {ChoirWires.NOT, ChoirWires.NOT, 9, 18, 18, 18, 18, ChoirWires.NOT, ChoirWires.NOT};
        for (int n = 0; n < want.length; n++) {
            DUE.is("29 net: of " + n, Choirs.meshed(9, new int[n]).net(), want[n]);
            ChoirWires x = full();
            for (int room = n; room < 8; room++) {
                x.set(room, 0, 5);
            }
            DUE.is("29 net: of " + n + ", the others are cut", x.net(), want[n]);
        }
    }

    private static void images() {
        ends("30 image", v -> new ChoirWires().image(v), 0, 1, 1, 1);
        ends("31 restore", v -> full().restore(v), 0, 1, 1, 1);
        ends("31 restore: none was kept", v -> new ChoirWires().restore(v), 0, NONE, 1, NONE);
    }

    private static void sheets() {
        ends("32 sheet: sheet", v -> new ChoirWires().sheet(v, 0, 5), 0, 5, 3, 5);
        ends("32 sheet: lane", v -> new ChoirWires().sheet(0, v, 5), 0, 5, 2, 5);
        for (int lane = 0; lane < 3; lane++) {
            int of = lane;
            String name = "32 sheet: n of lane " + lane;
            DUE.is(name + ": the least", new ChoirWires().sheet(0, lane, 0), 0);
            DUE.is(name + ": the greatest", new ChoirWires().sheet(0, lane, 40), 40);
            below(name, v -> new ChoirWires().sheet(0, of, v), 0, ChoirWires.SIZE);
            above(name, v -> new ChoirWires().sheet(0, of, v), 40, BAD);
        }
        ends("33 drop", v -> full().drop(v), 0, 40, 3, 40);
        ends("33 drop: nothing there", v -> new ChoirWires().drop(v), 0, ChoirWires.NULL, 3, ChoirWires.NULL);
    }

    private static void items() {
        ends("34 item: sheet", v -> full().item(v, 2, 0, 7), 0, 1, 3, 1);
        ends("34 item: lane", v -> ofLane(v).item(0, v, 0, 7), 0, 1, 2, 1);
        ends("34 item: i of 40", v -> full().item(0, 2, v, 7), 0, 1, 39, 1, INDEX);
        ends("34 item: i of 1", v -> single().item(0, 0, v, 7), 0, 1, 0, 1, INDEX);
        outside("34 item: i of 0", v -> emptyRow().item(0, 2, v, 7), 0, -1, INDEX);
        for (int v : new int[] {Integer.MIN_VALUE, -1, 0, Integer.MAX_VALUE}) {
            for (int lane = 0; lane < 3; lane++) {
                DUE.is("34 item: any v, " + v, ofLane(lane).item(0, lane, 0, v), 1);
            }
        }
    }

    private static ChoirWires emptyRow() {
        ChoirWires x = full();
        x.sheet(0, 2, 0);
        return x;
    }

    private static void copies() {
        ends("35 copy: from", v -> full().copy(v, 0, 1, 0, 5), 0, 5, 3, 5);
        ends("35 copy: to", v -> full().copy(1, 0, v, 0, 5), 0, 5, 3, 5);
        ends("35 copy: i, 1 of 40", v -> full().copy(0, v, 1, 0, 1), 0, 1, 39, 1, INDEX);
        ends("35 copy: i, 0 of 40", v -> full().copy(0, v, 1, 0, 0), 0, 0, 40, 0, INDEX);
        ends("35 copy: i, 40 of 40", v -> full().copy(0, v, 1, 0, 40), 0, 40, 0, 40, INDEX);
        ends("35 copy: j, 1 of 40", v -> full().copy(0, 0, 1, v, 1), 0, 1, 39, 1, INDEX);
        ends("35 copy: j, 0 of 40", v -> full().copy(0, 0, 1, v, 0), 0, 0, 40, 0, INDEX);
        ends("35 copy: j, 40 of 40", v -> full().copy(0, 0, 1, v, 40), 0, 40, 0, 40, INDEX);
        ends("35 copy: n from 0", v -> full().copy(0, 0, 1, 0, v), 0, 0, 40, 40, INDEX);
        ends("35 copy: n from 39", v -> full().copy(0, 39, 1, 0, v), 0, 0, 1, 1, INDEX);
        ends("35 copy: n to 39", v -> full().copy(0, 0, 1, 39, v), 0, 0, 1, 1, INDEX);
        ends("35 copy: n from 40", v -> full().copy(0, 40, 1, 0, v), 0, 0, 0, 0, INDEX);
        ends("35 copy: n to 40", v -> full().copy(0, 0, 1, 40, v), 0, 0, 0, 0, INDEX);
        ends("35 copy: n from none", v -> emptyRow().copy(0, 0, 1, 0, v), 0, 0, 0, 0, INDEX);
        ends("35 copy: n to none", v -> emptyRow().copy(1, 0, 0, 0, v), 0, 0, 0, 0, INDEX);
        ends("35 copy: n within one", v -> full().copy(0, 0, 0, 1, v), 0, 0, 39, 39, INDEX);
    }
}
