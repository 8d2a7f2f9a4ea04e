/** Promises 1 to 11. */
public final class RoomsTest {
    private static final Due DUE = new Due("RoomsTest");

    public static void main(String[] args) {
        newObject();
        rooms();
        sets();
        wire();
        wiresFromSheets();
        wiresRefused();
        pace();
        timesOfKinds();
        timesByWires();
        timesRefused();
        paceAt();
        slows();
        slowsIsNoStair();
        apart();
        counts();
        DUE.end();
    }

    private static void newObject() {
        ChoirWires x = new ChoirWires();
        for (int what = 0; what <= 5; what++) {
            DUE.is("1 new: count(" + what + ")", x.count(what), 0);
        }
        DUE.is("1 new: sound(0)", x.sound(0), ChoirWires.BAD);
        DUE.is("1 new: clashes(1)", x.clashes(1), ChoirWires.BAD);
        DUE.is("1 new: canon(0)", x.canon(0), ChoirWires.NONE);
        DUE.is("1 new: net()", x.net(), ChoirWires.NOT);
        DUE.is("1 new: group()", x.group(), 12);
        DUE.is("1 new: set(0, 0, 0)", x.set(0, 0, 0), ChoirWires.BAD);
        DUE.is("1 new: knows(0, 0)", x.knows(0, 0), ChoirWires.BAD);
        DUE.is("1 new: goes(0, 0)", x.goes(0, 0), ChoirWires.BAD);
        DUE.is("1 new: hold(0, 0)", x.hold(0, 0), ChoirWires.BAD);
        DUE.is("1 new: together(1, 8)", x.together(1, 8), ChoirWires.BAD);
        DUE.is("1 new: lost(0, 1)", x.lost(0, 1), ChoirWires.BAD);
        DUE.is("1 new: restore(0)", x.restore(0), ChoirWires.NONE);
        DUE.is("1 new: drop(0)", x.drop(0), ChoirWires.NULL);
        DUE.is("1 new: fit(0)", x.fit(0), 21);
        DUE.is("1 new: most(1)", x.most(1), 7);
        DUE.is("1 new: pace(1)", x.pace(1), 500);
        DUE.is("1 new: type('a', 1)", x.type('a', 1), 1);
    }

    private static void rooms() {
        ChoirWires x = new ChoirWires();
        DUE.is("2 room(-1)", x.room(-1), ChoirWires.BAD);
        DUE.is("2 room(6)", x.room(6), ChoirWires.BAD);
        DUE.is("2 refused rooms are none", x.count(0), 0);
        for (int i = 0; i < 8; i++) {
            DUE.is("2 room " + i, x.room(i % 6), i);
        }
        DUE.is("2 a ninth", x.room(0), ChoirWires.FULL);
        DUE.is("2 a ninth of no kind", x.room(6), ChoirWires.BAD);
        DUE.is("2 still 8", x.count(0), 8);
        for (int i = 0; i < 8; i++) {
            DUE.is("2 kind of " + i, x.set(i, 0, 0), i % 6);
        }
    }

    private static void sets() {
        int[] first = {3, 10, 50, 0, 0, 0};
        int[] greatest = {5, 99, 100, 999, 400, 63};
        ChoirWires x = Choirs.of(0, 3);
        for (int what = 0; what < 6; what++) {
            DUE.is("3 above, what " + what, x.set(1, what, greatest[what] + 1), ChoirWires.BAD);
            DUE.is("3 below, what " + what, x.set(1, what, -1), ChoirWires.BAD);
            DUE.is("3 at first, what " + what, x.set(1, what, greatest[what]), first[what]);
        }
        for (int what = 0; what < 6; what++) {
            DUE.is("3 greatest, what " + what, x.set(1, what, 0), greatest[what]);
            DUE.is("3 least, what " + what, x.set(1, what, 1), 0);
            DUE.is("3 the other one, what " + what, x.set(0, what, 0), what == 0 ? 0 : first[what]);
        }
        DUE.is("3 what -1", x.set(0, -1, 0), ChoirWires.BAD);
        DUE.is("3 what 6", x.set(0, 6, 0), ChoirWires.BAD);
        DUE.is("3 room 2", x.set(2, 0, 0), ChoirWires.BAD);
        DUE.is("3 room -1", x.set(-1, 0, 0), ChoirWires.BAD);
    }

    private static void wire() {
        ChoirWires x = Choirs.of(0, 0, 5);
        DUE.is("4 wire(0, 1, 400)", x.wire(0, 1, 400), 0);
        DUE.is("4 wire(0, 1, 1)", x.wire(0, 1, 1), 400);
        DUE.is("4 wire(0, 1, 401)", x.wire(0, 1, 401), ChoirWires.BAD);
        DUE.is("4 wire(0, 1, -1)", x.wire(0, 1, -1), ChoirWires.BAD);
        DUE.is("4 the way back is another", x.wire(1, 0, 7), 0);
        DUE.is("4 to one that is cut", x.wire(0, 2, 9), 0);
        DUE.is("4 wire(0, 1, 0)", x.wire(0, 1, 0), 1);
        DUE.is("4 wire(0, 1, 0) again", x.wire(0, 1, 0), 0);
        DUE.is("4 one room", x.wire(1, 1, 5), ChoirWires.BAD);
        DUE.is("4 one room, no wire", x.wire(1, 1, 0), ChoirWires.BAD);
        DUE.is("4 from 3", x.wire(3, 0, 5), ChoirWires.BAD);
        DUE.is("4 to 3", x.wire(0, 3, 5), ChoirWires.BAD);
        DUE.is("4 from -1", x.wire(-1, 0, 5), ChoirWires.BAD);
        DUE.is("4 to -1", x.wire(0, -1, 5), ChoirWires.BAD);
        DUE.is("4 how many", x.count(2), 2);
    }

    private static void wiresFromSheets() {
        ChoirWires x = Choirs.of(0, 0, 0);
        x.wire(1, 2, 5);
        x.sheet(0, 2, 5);
        x.item(0, 2, 1, 400);
        x.item(0, 2, 3, 1);
        DUE.is("5 ints from item 1 on", x.wires(1, 0, 2, 1), 2);
        DUE.is("5 to 0", x.wire(1, 0, 400), 400);
        DUE.is("5 to 2", x.wire(1, 2, 1), 1);
        DUE.is("5 none of others", x.count(2), 2);
        DUE.is("5 the last items", x.wires(0, 0, 2, 2), ChoirWires.NOT + 3);
        DUE.is("5 that one is to 1", x.wire(0, 1, 1), 1);
        x.sheet(1, 0, 3);
        x.item(1, 0, 0, 127);
        DUE.is("5 bytes", x.wires(2, 1, 0, 0), 1);
        DUE.is("5 what it took", x.wire(2, 0, 0), 127);
        x.sheet(1, 1, 3);
        DUE.is("5 shorts, none", x.wires(1, 1, 1, 0), 0);
        DUE.is("5 all of 1 are gone", x.count(2), 1);
    }

    private static void wiresRefused() {
        ChoirWires x = Choirs.of(0, 0, 0);
        x.wire(0, 1, 33);
        DUE.is("5 no row", x.wires(0, 0, 1, 0), ChoirWires.NULL);
        DUE.is("5 no such lane, no row", x.wires(0, 0, 3, 0), ChoirWires.BAD);
        DUE.is("5 lane -1", x.wires(0, 0, -1, 0), ChoirWires.BAD);
        x.sheet(0, 1, 4);
        DUE.is("5 no such room", x.wires(3, 0, 1, 0), ChoirWires.BAD);
        DUE.is("5 room -1", x.wires(-1, 0, 1, 0), ChoirWires.BAD);
        DUE.is("5 no such sheet", x.wires(0, 4, 1, 0), ChoirWires.BAD);
        DUE.is("5 sheet -1", x.wires(0, -1, 1, 0), ChoirWires.BAD);
        DUE.is("5 as bytes, too far", x.wires(0, 0, 0, 9), ChoirWires.CAST);
        DUE.is("5 as ints", x.wires(0, 0, 2, 0), ChoirWires.CAST);
        x.item(0, 1, 2, 401);
        DUE.is("5 too far, and one not as told", x.wires(0, 0, 1, 2), ChoirWires.INDEX);
        DUE.is("5 i -1", x.wires(0, 0, 1, -1), ChoirWires.INDEX);
        DUE.is("5 i the greatest", x.wires(0, 0, 1, Integer.MAX_VALUE), ChoirWires.INDEX);
        DUE.is("5 i the least", x.wires(0, 0, 1, Integer.MIN_VALUE), ChoirWires.INDEX);
        DUE.is("5 one is 401", x.wires(0, 0, 1, 0), ChoirWires.NOT);
        x.item(0, 1, 2, -1);
        DUE.is("5 one is -1", x.wires(0, 0, 1, 0), ChoirWires.NOT);
        x.item(0, 1, 2, 0);
        x.item(0, 1, 0, 1);
        DUE.is("5 its own is 1", x.wires(0, 0, 1, 0), ChoirWires.NOT);
        DUE.is("5 what was there is", x.wire(0, 1, 33), 33);
        x.item(0, 1, 0, 0);
        x.item(0, 1, 3, 401);
        DUE.is("5 an item behind the last does not count", x.wires(0, 0, 1, 0), 0);
        x.sheet(0, 1, 2);
        DUE.is("5 a row too short", x.wires(0, 0, 1, 0), ChoirWires.INDEX);
        x.sheet(0, 0, 3);
        x.item(0, 0, 1, 200);
        DUE.is("5 a byte of 200 is below 0", x.wires(0, 0, 0, 0), ChoirWires.NOT);
    }

    private static void pace() {
        ChoirWires x = Choirs.of(1);
        DUE.is("6 pace(0)", x.pace(0), ChoirWires.BAD);
        DUE.is("6 pace(2001)", x.pace(2001), ChoirWires.BAD);
        DUE.is("6 at first", x.pace(2000), 500);
        DUE.is("6 pace(1)", x.pace(1), 2000);
        DUE.is("6 sung", x.time(0, 40), 40);
    }

    private static void timesOfKinds() {
        ChoirWires x = Choirs.of(0, 1, 2, 3);
        x.set(2, 3, 999);
        x.set(3, 4, 400);
        x.set(1, 3, 7);
        DUE.is("7 a follower alone begins", x.time(0, 0), 0);
        DUE.is("7 a follower alone is late", x.time(0, 3), 1530);
        DUE.is("7 one ahead begins", x.time(1, 0), 0);
        DUE.is("7 one ahead keeps to the click", x.time(1, 40), 20000);
        DUE.is("7 a leader begins early", x.time(2, 0), -999);
        DUE.is("7 a leader stays early", x.time(2, 2), 1);
        DUE.is("7 a guessing one that hears none", x.time(3, 2), 1020);
        x.set(0, 1, 99);
        DUE.is("7 later", x.time(0, 2), 1198);
        x.set(0, 2, 100);
        DUE.is("7 pulled by nobody", x.time(0, 2), 1198);
    }

    private static void timesByWires() {
        ChoirWires x = Choirs.meshed(100, 0, 0);
        DUE.is("7 both hear late", x.time(0, 1), 560);
        DUE.is("7 both slow down", x.time(1, 2), 1120);
        x.set(1, 0, 3);
        x.set(1, 4, 100);
        DUE.is("7 the one who guesses right", x.time(1, 1), 510);
        DUE.is("7 by what it hears at 1", x.time(1, 2), 510 + 510 + 25);
        DUE.is("7 by what the other hears at 1", x.time(0, 2), 560 + 510 + 25);
        x.set(1, 0, 0);
        x.set(1, 3, 50);
        DUE.is("7 neither guess nor early count for a follower", x.time(1, 1), 560);

        ChoirWires cuts = Choirs.of(0, 2, 1);
        Choirs.pair(cuts, 0, 1, 1, 1);
        Choirs.pair(cuts, 0, 2, 1, 4);
        cuts.set(1, 3, 0);
        DUE.is("7 the mean of 1 and 4 is 2, its half 1", cuts.time(0, 1), 511);
        cuts.set(1, 3, 10);
        DUE.is("7 the mean of -9 and 4 is -2, its half -1", cuts.time(0, 1), 509);
        cuts.set(0, 2, 49);
        DUE.is("7 49 hundredths of -2 are 0", cuts.time(0, 1), 510);

        ChoirWires floor = Choirs.of(0, 2, 4, 5);
        floor.wire(1, 0, 1);
        floor.set(0, 2, 100);
        floor.set(1, 3, 999);
        DUE.is("7 no less than 1 above", floor.time(0, 1), 1);
        DUE.is("7 then it is free again", floor.time(0, 2), 1 + 510 - 499);
        floor.wire(2, 0, 400);
        floor.wire(3, 0, 400);
        DUE.is("7 silent and cut ones are not heard", floor.time(0, 1), 1);
    }

    private static void timesRefused() {
        ChoirWires x = Choirs.of(0, 4, 5);
        DUE.is("7 silent", x.time(1, 0), -1000004);
        DUE.is("7 cut", x.time(2, 40), -1000004);
        DUE.is("7 beat 41", x.time(0, 41), -1000001);
        DUE.is("7 beat -1", x.time(0, -1), -1000001);
        DUE.is("7 beat 41 of a silent one", x.time(1, 41), -1000001);
        DUE.is("7 room 3", x.time(3, 0), -1000001);
        DUE.is("7 room -1", x.time(-1, 0), -1000001);
    }

    private static void paceAt() {
        ChoirWires x = Choirs.of(4, 5);
        DUE.is("8 nobody", x.paceAt(1), ChoirWires.NONE);
        DUE.is("8 nobody, beat 0", x.paceAt(0), ChoirWires.BAD);
        x.room(1);
        x.room(0);
        DUE.is("8 500 and 510", x.paceAt(1), 505);
        x.room(0);
        DUE.is("8 500, 510, 510 cut", x.paceAt(40), 506);
        DUE.is("8 beat 41", x.paceAt(41), ChoirWires.BAD);
        DUE.is("8 beat -1", x.paceAt(-1), ChoirWires.BAD);
        ChoirWires early = Choirs.of(2);
        early.set(0, 3, 200);
        DUE.is("8 a leader's first beat", early.paceAt(1), 500);
    }

    private static void slows() {
        ChoirWires x = Choirs.of(4);
        DUE.is("9 nobody", x.slows(1, 0), ChoirWires.NONE);
        DUE.is("9 nobody, v -1", x.slows(1, -1), ChoirWires.BAD);
        x = Choirs.meshed(400, 0, 0);
        DUE.is("9 above 509 always", x.slows(1, 509), 1);
        DUE.is("9 above 510 from 2 on", x.slows(1, 510), 2);
        DUE.is("9 above 520 from 22 on", x.slows(1, 520), 22);
        DUE.is("9 above 709 at 400", x.slows(1, 709), 400);
        DUE.is("9 above 710 never", x.slows(1, 710), ChoirWires.NONE);
        DUE.is("9 the same at beat 40", x.slows(40, 709), 400);
        DUE.is("9 wires are as they were", x.wire(0, 1, 400), 400);
        DUE.is("9 beat 0", x.slows(0, 0), ChoirWires.BAD);
        DUE.is("9 beat 41", x.slows(41, 0), ChoirWires.BAD);
        DUE.is("9 v -1", x.slows(1, -1), ChoirWires.BAD);
        DUE.is("9 v 99999", x.slows(1, 99999), ChoirWires.NONE);
        DUE.is("9 v 100000", x.slows(1, 100000), ChoirWires.BAD);
        DUE.is("9 one alone, the first", Choirs.of(1).slows(1, 499), 1);
        ChoirWires oneWay = Choirs.of(0, 1);
        DUE.is("9 without wires, as they are", oneWay.slows(1, 504), 1);
        DUE.is("9 without wires, never", oneWay.slows(1, 505), ChoirWires.NONE);
        oneWay.wire(1, 0, 400);
        DUE.is("9 only wires that there are", oneWay.slows(1, 505), 4);
    }

    /** A follower of a click is drawn to it: long wires are over at a late beat, odd ones are not. */
    private static void slowsIsNoStair() {
        ChoirWires x = Choirs.of(0, 1);
        x.wire(1, 0, 5);
        x.set(0, 1, 0);
        int beat = 6;
        int first = 0;
        for (int d = 400; d >= 1; d--) {
            x.wire(1, 0, d);
            if (x.paceAt(beat) > 500) {
                first = d;
            }
        }
        DUE.is("9 the least of all delays", x.slows(beat, 500), first);
    }

    private static void apart() {
        ChoirWires x = Choirs.of(4);
        DUE.is("10 nobody", x.apart(0), ChoirWires.NONE);
        DUE.is("10 nobody, beat 41", x.apart(41), ChoirWires.BAD);
        x.room(0);
        DUE.is("10 one alone", x.apart(40), 0);
        x.room(2);
        x.set(2, 3, 30);
        DUE.is("10 at 0", x.apart(0), 30);
        DUE.is("10 at 40", x.apart(40), 30 + 400);
        DUE.is("10 beat -1", x.apart(-1), ChoirWires.BAD);
        DUE.is("10 beat 41", x.apart(41), ChoirWires.BAD);
        x.set(1, 0, 5);
        DUE.is("10 a cut one does not count", x.apart(40), 0);
        ChoirWires first = Choirs.of(0, 1, 1);
        first.wire(1, 0, 400);
        DUE.is("10 the first one, by its wire", first.apart(1), 210);
        first.set(0, 0, 2);
        first.set(0, 3, 5);
        DUE.is("10 the first one, early", first.apart(1), 5);
    }

    private static void counts() {
        ChoirWires x = Choirs.of(0, 1, 2, 3, 4, 5);
        x.wire(0, 1, 3);
        x.wire(1, 0, 3);
        x.wire(5, 4, 3);
        Choirs.read(x, "a2. b - c.");
        x.loss(0);
        x.loss(1);
        int[] want = {6, 4, 3, 5, 2, 2};
        for (int what = 0; what < 6; what++) {
            DUE.is("11 count(" + what + ")", x.count(what), want[what]);
        }
        DUE.is("11 count(-1)", x.count(-1), ChoirWires.BAD);
        DUE.is("11 count(6)", x.count(6), ChoirWires.BAD);
        x.set(5, 0, 3);
        x.wire(0, 1, 0);
        DUE.is("11 one more sings", x.count(1), 5);
        DUE.is("11 a wire less", x.count(2), 2);
    }
}
