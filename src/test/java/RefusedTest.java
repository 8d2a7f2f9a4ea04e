import java.util.ArrayList;
import java.util.List;
import java.util.function.Supplier;
import java.util.function.ToIntFunction;

/**
 * A call that is refused changes nothing, but as told (a FAULT empties the tape), and neither does a
 * call that only asks. Each call is made of objects of its own, which are read part by part then.
 */
public final class RefusedTest {
    private static final Due DUE = new Due("RefusedTest");
    private static final int BAD = ChoirWires.BAD, NOT = ChoirWires.NOT, FULL = ChoirWires.FULL;
    private static final int NONE = ChoirWires.NONE, NULL = ChoirWires.NULL, CAST = ChoirWires.CAST;
    private static final int INDEX = ChoirWires.INDEX, SIZE = ChoirWires.SIZE;

    private final Supplier<ChoirWires> made;
    private final List<List<Integer>> untouched = new ArrayList<>();

    private RefusedTest(Supplier<ChoirWires> made) {
        this.made = made;
        for (int part = 0; part < Reading.PARTS; part++) {
            untouched.add(Reading.part(made.get(), part));
        }
    }

    public static void main(String[] args) {
        RefusedTest some = new RefusedTest(RefusedTest::some);
        some.readingTellsChanges();
        some.rooms();
        some.wires();
        some.times();
        some.together();
        some.pieces();
        some.faults();
        some.stops();
        some.losses();
        some.images();
        some.sheets();
        some.copies();
        some.asks();
        some.asksOfPieces();
        RefusedTest full = new RefusedTest(RefusedTest::filled);
        full.full();
        RefusedTest fresh = new RefusedTest(ChoirWires::new);
        fresh.fresh();
        DUE.end();
    }

    private void changesNothing(String call, int want, ToIntFunction<ChoirWires> does) {
        for (int part = 0; part < Reading.PARTS; part++) {
            ChoirWires x = made.get();
            DUE.is(call, does.applyAsInt(x), want);
            DUE.holds(call + " leaves part " + part, Reading.part(x, part).equals(untouched.get(part)));
        }
    }

    /** Four rooms, one of them silent and one cut, and some of all else; nothing is full. */
    private static ChoirWires some() {
        ChoirWires x = Choirs.meshed(30, 0, 3, 4, 5);
        x.room(2);
        for (int what = 1; what < 6; what++) {
            x.set(1, what, 20 + what);
        }
        Choirs.read(x, "a2.b-c.");
        x.lose(2, 0, 1, true);
        x.loss(3);
        x.image(0);
        x.wire(1, 0, 31);
        x.wire(0, 4, 17);
        x.wire(1, 4, 19);
        x.pace(444);
        x.fit(3);
        x.most(2);
        x.lose(7, 3, 4, true);
        x.loss(1L << 23 | 1L << 47);
        x.sheet(0, 0, 6);
        x.item(0, 0, 5, 99);
        x.sheet(1, 1, 9);
        for (int i = 0; i < 9; i++) {
            x.item(1, 1, i, 300 + i);
        }
        x.sheet(2, 1, 3);
        x.item(2, 1, 1, 5);
        Choirs.typed(x, "d3.-e");
        return x;
    }

    private static ChoirWires filled() {
        ChoirWires x = Choirs.full();
        Choirs.typed(x, "g2.".repeat(32) + " ".repeat(24));
        return x;
    }

    /** A change of any kind must be seen, or all that stands below says nothing. */
    private void readingTellsChanges() {
        seen("room", x -> x.room(4));
        for (int what = 0; what < 6; what++) {
            int of = what;
            seen("set " + what, x -> x.set(4, of, 1));
        }
        seen("wire", x -> x.wire(4, 3, 1));
        seen("wires", x -> x.wires(0, 2, 0, 0) + x.sheet(3, 0, 5) + x.wires(0, 3, 0, 0) + x.drop(3));
        seen("pace", x -> x.pace(445));
        seen("type", x -> x.type('a', 1));
        seen("piece", ChoirWires::piece);
        seen("fit", x -> x.fit(4));
        for (int round = 1; round <= 7; round++) {
            int of = round;
            seen("lose in round " + round, x -> x.lose(of, 4, 0, true));
        }
        seen("not lost", x -> x.lose(7, 3, 4, false));
        seen("loss", x -> x.loss(0));
        seen("clear", ChoirWires::clear);
        seen("most", x -> x.most(3));
        seen("image 0", x -> x.image(0));
        seen("image 1", x -> x.image(1));
        seen("restore", x -> x.restore(0));
        seen("sheet", x -> x.sheet(3, 0, 0));
        seen("a shorter sheet", x -> x.sheet(0, 0, 5));
        seen("drop", x -> x.drop(2));
        seen("item", x -> x.item(1, 1, 8, 0));
        seen("copy", x -> x.copy(2, 1, 1, 0, 1));
    }

    private void seen(String call, ToIntFunction<ChoirWires> does) {
        boolean seen = false;
        for (int part = 0; part < Reading.PARTS; part++) {
            ChoirWires x = made.get();
            does.applyAsInt(x);
            seen |= !Reading.part(x, part).equals(untouched.get(part));
        }
        DUE.holds("a change by " + call + " is seen", seen);
    }

    private void rooms() {
        changesNothing("2 room(6)", BAD, x -> x.room(6));
        changesNothing("2 room(-1)", BAD, x -> x.room(-1));
        changesNothing("3 set, no room", BAD, x -> x.set(5, 1, 1));
        changesNothing("3 set, room -1", BAD, x -> x.set(-1, 1, 1));
        changesNothing("3 set, what 6", BAD, x -> x.set(1, 6, 1));
        changesNothing("3 set, what -1", BAD, x -> x.set(1, -1, 1));
        int[] most = {5, 99, 100, 999, 400, 63};
        for (int what = 0; what < 6; what++) {
            int of = what;
            changesNothing("3 set, above, what " + what, BAD, x -> x.set(1, of, most[of] + 1));
            changesNothing("3 set, below, what " + what, BAD, x -> x.set(1, of, -1));
        }
        changesNothing("4 wire, no room", BAD, x -> x.wire(0, 5, 1));
        changesNothing("4 wire, from none", BAD, x -> x.wire(5, 0, 1));
        changesNothing("4 wire, one room", BAD, x -> x.wire(1, 1, 1));
        changesNothing("4 wire, 401", BAD, x -> x.wire(0, 1, 401));
        changesNothing("4 wire, -1", BAD, x -> x.wire(0, 1, -1));
        changesNothing("6 pace(0)", BAD, x -> x.pace(0));
        changesNothing("6 pace(2001)", BAD, x -> x.pace(2001));
        changesNothing("28 most(0)", BAD, x -> x.most(0));
        changesNothing("28 most(8)", BAD, x -> x.most(8));
    }

    private void wires() {
        changesNothing("5 wires, no room", BAD, x -> x.wires(5, 0, 0, 0));
        changesNothing("5 wires, no sheet", BAD, x -> x.wires(0, 4, 0, 0));
        changesNothing("5 wires, no lane", BAD, x -> x.wires(0, 0, 3, 0));
        changesNothing("5 wires, nothing", NULL, x -> x.wires(0, 3, 0, 0));
        changesNothing("5 wires, another lane", CAST, x -> x.wires(0, 0, 1, 0));
        changesNothing("5 wires, too far", INDEX, x -> x.wires(0, 0, 0, 2));
        changesNothing("5 wires, below 0", INDEX, x -> x.wires(0, 0, 0, -1));
        changesNothing("5 wires, too short", INDEX, x -> x.wires(0, 2, 1, 0));
        changesNothing("5 wires, its own is not 0", NOT, x -> x.wires(4, 0, 0, 1));
        changesNothing("5 wires, its own is not 0, the first", NOT, x -> x.wires(0, 1, 1, 0));
        changesNothing("5 wires, its own is not 0, the last", NOT, x -> x.wires(4, 1, 1, 0));
        RefusedTest last = new RefusedTest(RefusedTest::lastIs401);
        last.changesNothing("5 wires, the last is 401", NOT, x -> x.wires(0, 1, 2, 0));
        RefusedTest below = new RefusedTest(RefusedTest::lastIsBelow0);
        below.changesNothing("5 wires, the last is below 0", NOT, x -> x.wires(0, 1, 2, 0));
    }

    private static ChoirWires lastIs401() {
        ChoirWires x = some();
        x.sheet(1, 2, 5);
        x.item(1, 2, 1, 7);
        x.item(1, 2, 4, 401);
        return x;
    }

    private static ChoirWires lastIsBelow0() {
        ChoirWires x = lastIs401();
        x.item(1, 2, 4, -1);
        return x;
    }

    private void times() {
        changesNothing("7 time, no room", -1000001, x -> x.time(5, 0));
        changesNothing("7 time, beat 41", -1000001, x -> x.time(0, 41));
        changesNothing("7 time, silent", -1000004, x -> x.time(2, 1));
        changesNothing("8 paceAt(0)", BAD, x -> x.paceAt(0));
        changesNothing("8 paceAt(41)", BAD, x -> x.paceAt(41));
        changesNothing("9 slows, beat 0", BAD, x -> x.slows(0, 0));
        changesNothing("9 slows, v -1", BAD, x -> x.slows(1, -1));
        changesNothing("9 slows, never", NONE, x -> x.slows(40, 99999));
        changesNothing("10 apart(41)", BAD, x -> x.apart(41));
        changesNothing("10 apart(-1)", BAD, x -> x.apart(-1));
        changesNothing("11 count(6)", BAD, x -> x.count(6));
        changesNothing("11 count(-1)", BAD, x -> x.count(-1));
        changesNothing("12 hold, no room", BAD, x -> x.hold(5, 0));
        changesNothing("12 hold, what 2", BAD, x -> x.hold(0, 2));
        changesNothing("12 hold, cut", NONE, x -> x.hold(3, 0));
        changesNothing("12 hold, a wire is not there", NONE, x -> x.hold(0, 0));
    }

    private void together() {
        changesNothing("13 together, no ears", BAD, x -> x.together(0, 8));
        changesNothing("13 together, no such ear", BAD, x -> x.together(32, 8));
        changesNothing("13 together, what 9", BAD, x -> x.together(1, 9));
        changesNothing("13 together, silent", NOT, x -> x.together(1, 2));
        changesNothing("13 together, an ear", NOT, x -> x.together(1, 0));
        changesNothing("13 together, it can't be", NONE, x -> x.together(1, 1));
        changesNothing("13 together, for which ear", 0, x -> x.together(1, 8));
    }

    private void pieces() {
        changesNothing("14 type, n 0", BAD, x -> x.type('a', 0));
        changesNothing("14 type, n 9", BAD, x -> x.type(0x6161616161616161L, 9));
        changesNothing("14 type, the last byte is bad", BAD, x -> x.type(0x61616161616161_1FL, 8));
        changesNothing("14 type, the first byte is bad", BAD, x -> x.type(0x7F61616161616161L, 8));
        changesNothing("16 sound(-1)", BAD, x -> x.sound(-1));
        changesNothing("16 sound(64)", BAD, x -> x.sound(64));
        changesNothing("17 fit(-1)", BAD, x -> x.fit(-1));
        changesNothing("17 fit(128)", BAD, x -> x.fit(128));
        changesNothing("18 clashes(0)", BAD, x -> x.clashes(0));
        changesNothing("18 clashes(64)", BAD, x -> x.clashes(64));
        changesNothing("19 canon(-1)", BAD, x -> x.canon(-1));
        changesNothing("19 canon(63)", NONE, x -> x.canon(63));
        changesNothing("20 sea, d 64", BAD, x -> x.sea(64, 64));
        changesNothing("20 sea, blinks 0", BAD, x -> x.sea(1, 0));
        changesNothing("20 sea, it can't be parted", NONE, x -> x.sea(2, 3));
        changesNothing("20 sea, above 2000", NONE, x -> x.sea(1, 2001));
    }

    /** A FAULT changes the tape alone: what is read then is as if it had been emptied by hand. */
    private void faults() {
        String[] texts = {"h", " 9 9", "..", "0", "a".repeat(38), "g9".repeat(7)};
        int[] places = {5, 8, 6, 5, 42, 17};
        for (int i = 0; i < texts.length; i++) {
            for (int part = 0; part < Reading.PARTS - 1; part++) {
                ChoirWires x = made.get();
                Choirs.typed(x, texts[i]);
                DUE.is("15 the fault of d3.-e" + texts[i], x.piece(), -20 - places[i]);
                DUE.holds("15 it leaves part " + part, Reading.part(x, part).equals(untouched.get(part)));
            }
            ChoirWires x = made.get();
            Choirs.typed(x, texts[i]);
            x.piece();
            DUE.is("15 the tape is empty then", x.type('a', 1), 1);
        }
    }

    private void stops() {
        changesNothing("21 lose, round 0", BAD, x -> x.lose(0, 0, 1, true));
        changesNothing("21 lose, round 8", BAD, x -> x.lose(8, 0, 1, true));
        changesNothing("21 lose, from none", BAD, x -> x.lose(1, 5, 1, true));
        changesNothing("21 lose, to none", BAD, x -> x.lose(1, 0, 5, true));
        changesNothing("21 lose, one room", BAD, x -> x.lose(1, 1, 1, true));
        changesNothing("21 not lost, round 8", BAD, x -> x.lose(8, 0, 1, false));
        changesNothing("22 goes, no room", BAD, x -> x.goes(5, 0));
        changesNothing("22 goes, n 8", BAD, x -> x.goes(0, 8));
        changesNothing("22 goes, a cut one", NONE, x -> x.goes(3, 7));
        changesNothing("22 goes, it waits", NONE, x -> x.goes(0, 0));
        changesNothing("23 knows, no room", BAD, x -> x.knows(5, 0));
        changesNothing("23 knows, n 8", BAD, x -> x.knows(0, 8));
    }

    private void losses() {
        changesNothing("24 loss, bit 48", BAD, x -> x.loss(1L << 48));
        changesNothing("24 loss, below 0", BAD, x -> x.loss(-1));
        changesNothing("25 lost, row 2", BAD, x -> x.lost(2, 1));
        changesNothing("25 lost, g 0", BAD, x -> x.lost(0, 0));
        changesNothing("25 lost, g 13", BAD, x -> x.lost(0, 13));
        changesNothing("26 group, by none", NONE, ChoirWires::group);
        changesNothing("29 net, none", NONE, ChoirWires::net);
    }

    private void images() {
        changesNothing("30 image(2)", BAD, x -> x.image(2));
        changesNothing("30 image(-1)", BAD, x -> x.image(-1));
        changesNothing("31 restore(2)", BAD, x -> x.restore(2));
        changesNothing("31 restore(-1)", BAD, x -> x.restore(-1));
        changesNothing("31 restore(1), none was kept", NONE, x -> x.restore(1));
    }

    private void sheets() {
        changesNothing("32 sheet(4)", BAD, x -> x.sheet(4, 0, 1));
        changesNothing("32 sheet, lane 3", BAD, x -> x.sheet(1, 3, 1));
        changesNothing("32 sheet, n 41", BAD, x -> x.sheet(1, 1, 41));
        changesNothing("32 sheet, n -1", SIZE, x -> x.sheet(1, 1, -1));
        changesNothing("32 sheet of another lane, n -1", SIZE, x -> x.sheet(1, 2, -1));
        changesNothing("32 sheet of nothing, n -1", SIZE, x -> x.sheet(3, 2, -1));
        changesNothing("33 drop(4)", BAD, x -> x.drop(4));
        changesNothing("33 drop(-1)", BAD, x -> x.drop(-1));
        changesNothing("33 drop of nothing", NULL, x -> x.drop(3));
        changesNothing("34 item of sheet 4", BAD, x -> x.item(4, 0, 0, 7));
        changesNothing("34 item of lane 3", BAD, x -> x.item(0, 3, 0, 7));
        changesNothing("34 item of nothing", NULL, x -> x.item(3, 0, 0, 7));
        changesNothing("34 item of another lane", CAST, x -> x.item(0, 1, 0, 7));
        changesNothing("34 item 6 of 6", INDEX, x -> x.item(0, 0, 6, 7));
        changesNothing("34 item -1", INDEX, x -> x.item(0, 0, -1, 7));
    }

    private void copies() {
        changesNothing("35 copy from sheet 4", BAD, x -> x.copy(4, 0, 1, 0, 1));
        changesNothing("35 copy to sheet 4", BAD, x -> x.copy(1, 0, 4, 0, 1));
        changesNothing("35 copy from nothing", NULL, x -> x.copy(3, 0, 1, 0, 1));
        changesNothing("35 copy to nothing", NULL, x -> x.copy(1, 0, 3, 0, 1));
        changesNothing("35 copy to another lane", CAST, x -> x.copy(1, 0, 0, 0, 1));
        changesNothing("35 copy, some are beyond the one", INDEX, x -> x.copy(2, 1, 1, 0, 3));
        changesNothing("35 copy, some are beyond the other", INDEX, x -> x.copy(1, 0, 2, 1, 3));
        changesNothing("35 copy within one, beyond", INDEX, x -> x.copy(1, 0, 1, 1, 9));
        changesNothing("35 copy, i -1", INDEX, x -> x.copy(1, -1, 2, 0, 1));
        changesNothing("35 copy, j -1", INDEX, x -> x.copy(1, 0, 2, -1, 1));
        changesNothing("35 copy, n -1", INDEX, x -> x.copy(1, 0, 2, 0, -1));
        changesNothing("35 copy, n 0 beyond the end", INDEX, x -> x.copy(1, 10, 2, 0, 0));
        changesNothing("35 copy of none", 0, x -> x.copy(1, 0, 2, 0, 0));
    }

    private void asks() {
        changesNothing("7 time", 0, x -> x.time(0, 0));
        changesNothing("7 time at 40", 40 * 444, x -> x.time(4, 40));
        changesNothing("8 paceAt", some().paceAt(40), x -> x.paceAt(40));
        changesNothing("9 slows", 1, x -> x.slows(40, 0));
        changesNothing("10 apart", some().apart(40), x -> x.apart(40));
        changesNothing("11 count", 5, x -> x.count(0));
        changesNothing("12 hold", 19, x -> x.hold(4, 0));
        changesNothing("12 cost", 2, x -> x.hold(4, 1));
        changesNothing("13 together", 2, x -> x.together(16, 1));
        changesNothing("23 knows", 7, x -> x.knows(2, 7));
        new RefusedTest(() -> Choirs.meshed(5, 0, 0, 0)).changesNothing("29 net", 10, ChoirWires::net);
    }

    private void asksOfPieces() {
        changesNothing("16 sound", 11, x -> x.sound(1));
        changesNothing("18 clashes", some().clashes(1), x -> x.clashes(1));
        changesNothing("19 canon", some().canon(0), x -> x.canon(0));
        changesNothing("20 sea", 2, x -> x.sea(2, 4));
        changesNothing("25 lost", 3, x -> x.lost(0, 12));
    }

    private void full() {
        changesNothing("2 a ninth room", FULL, x -> x.room(0));
        changesNothing("24 a ninth row", FULL, x -> x.loss(5));
        changesNothing("14 a 121st byte", FULL, x -> x.type('a', 1));
        changesNothing("14 eight more", FULL, x -> x.type(0x6161616161616161L, 8));
        changesNothing("29 net of eight", NOT, ChoirWires::net);
        changesNothing("26 group", 12, ChoirWires::group);
        changesNothing("12 hold", 9, x -> x.hold(7, 0));
        changesNothing("13 together", 0, x -> x.together(1, 7));
        changesNothing("22 goes", 0, x -> x.goes(7, 1));
        changesNothing("5 wires, a row too short", INDEX, x -> x.wires(0, 0, 2, 33));
    }

    private void fresh() {
        changesNothing("3 set", BAD, x -> x.set(0, 0, 0));
        changesNothing("4 wire", BAD, x -> x.wire(0, 1, 1));
        changesNothing("8 paceAt", NONE, x -> x.paceAt(1));
        changesNothing("9 slows", NONE, x -> x.slows(1, 0));
        changesNothing("10 apart", NONE, x -> x.apart(0));
        changesNothing("15 piece of nothing", -20, ChoirWires::piece);
        changesNothing("19 canon", NONE, x -> x.canon(0));
        changesNothing("27 clear", 0, ChoirWires::clear);
        changesNothing("29 net", NOT, ChoirWires::net);
        changesNothing("31 restore(0)", NONE, x -> x.restore(0));
        changesNothing("33 drop", NULL, x -> x.drop(0));
        changesNothing("34 item", NULL, x -> x.item(0, 0, 0, 1));
    }
}
