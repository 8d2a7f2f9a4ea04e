/** Promises 30 to 35. */
public final class ImageSheetTest {
    private static final Due DUE = new Due("ImageSheetTest");

    public static void main(String[] args) {
        images();
        allIsKept();
        whatIsNotKept();
        sheets();
        drops();
        items();
        lowestBits();
        copies();
        copiesRefused();
        DUE.end();
    }

    private static void images() {
        ChoirWires x = Choirs.of(0);
        DUE.is("30 image(-1)", x.image(-1), ChoirWires.BAD);
        DUE.is("30 image(2)", x.image(2), ChoirWires.BAD);
        DUE.is("31 restore(-1)", x.restore(-1), ChoirWires.BAD);
        DUE.is("31 restore(2)", x.restore(2), ChoirWires.BAD);
        DUE.is("31 none was kept", x.restore(1), ChoirWires.NONE);
        DUE.is("30 image(1)", x.image(1), 1);
        DUE.is("31 none was kept in 0", x.restore(0), ChoirWires.NONE);
        x.room(1);
        DUE.is("30 image(0)", x.image(0), 1);
        x.room(2);
        DUE.is("31 restore(1)", x.restore(1), 1);
        DUE.is("31 one room", x.count(0), 1);
        x.room(5);
        DUE.is("31 the other is there still", x.restore(0), 1);
        DUE.is("31 two rooms", x.count(0), 2);
        DUE.is("31 as it was", x.set(1, 0, 3), 1);
        DUE.is("31 more than once", x.restore(0), 1);
        DUE.is("31 as it was again", x.set(1, 0, 1), 1);
        x.room(0);
        DUE.is("30 kept anew", x.image(1), 1);
        x.restore(0);
        x.restore(1);
        DUE.is("31 three rooms", x.count(0), 3);
    }

    private static ChoirWires filled() {
        ChoirWires x = Choirs.of(0, 2, 3);
        for (int what = 1; what < 6; what++) {
            x.set(1, what, 10 + what);
        }
        x.wire(0, 2, 77);
        x.pace(444);
        Choirs.read(x, "ab.-c2");
        x.fit(3);
        x.lose(4, 2, 1, true);
        x.loss(5);
        x.loss(6);
        x.most(2);
        return x;
    }

    private static void change(ChoirWires x) {
        x.room(4);
        for (int what = 0; what < 6; what++) {
            x.set(1, what, 0);
        }
        x.set(3, 5, 9);
        x.wire(0, 2, 0);
        x.wire(3, 2, 4);
        x.pace(1);
        Choirs.read(x, "g.g.g.g.g.g.");
        x.fit(4);
        x.lose(4, 2, 1, false);
        x.lose(1, 0, 3, true);
        x.clear();
        x.loss(7);
        x.most(6);
    }

    private static void allIsKept() {
        ChoirWires x = filled();
        x.image(0);
        change(x);
        DUE.is("31 restore(0)", x.restore(0), 1);
        DUE.is("31 rooms", x.count(0), 3);
        DUE.is("31 kind", x.set(1, 0, 2), 2);
        for (int what = 1; what < 6; what++) {
            DUE.is("31 what " + what, x.set(1, what, 10 + what), 10 + what);
        }
        DUE.is("31 wires", x.count(2), 1);
        DUE.is("31 wire", x.wire(0, 2, 77), 77);
        DUE.is("31 pace", x.pace(444), 444);
        DUE.is("31 beats", x.count(3), 5);
        DUE.is("31 breaths", x.count(4), 1);
        DUE.is("31 sound", x.sound(1), 12);
        DUE.is("31 fit", x.fit(3), 3);
        DUE.is("31 a word that is lost", x.lose(4, 2, 1, true), 1);
        DUE.is("31 loss rows", x.count(5), 2);
        DUE.is("31 a loss row", x.lost(1, 12), 6);
        DUE.is("31 a loss row that was written over", x.lost(0, 12), 5);
        DUE.is("31 most", x.most(2), 2);
        DUE.is("31 the next room is new", x.room(0), 3);
        DUE.is("31 its beat too", x.set(3, 5, 1), 0);
        DUE.is("31 and has no wires", x.wire(3, 2, 1), 0);
        DUE.is("31 nor lost words", x.lose(1, 0, 3, false), 0);
    }

    private static void whatIsNotKept() {
        ChoirWires x = new ChoirWires();
        x.type('a', 1);
        x.sheet(0, 0, 3);
        x.sheet(1, 1, 4);
        x.image(0);
        x.type('b', 1);
        x.sheet(0, 2, 7);
        x.drop(1);
        x.restore(0);
        DUE.is("31 the tape stays", x.type('c', 1), 3);
        DUE.is("31 a sheet stays", x.drop(0), 7);
        DUE.is("31 a dropped one too", x.drop(1), ChoirWires.NULL);
    }

    private static void sheets() {
        ChoirWires x = new ChoirWires();
        DUE.is("32 n 0", x.sheet(0, 0, 0), 0);
        DUE.is("32 n 40", x.sheet(3, 2, 40), 40);
        DUE.is("32 n 41", x.sheet(0, 0, 41), ChoirWires.BAD);
        DUE.is("32 n -1", x.sheet(0, 0, -1), ChoirWires.SIZE);
        DUE.is("32 n the least", x.sheet(0, 0, Integer.MIN_VALUE), ChoirWires.SIZE);
        DUE.is("32 sheet 4, n -1", x.sheet(4, 0, -1), ChoirWires.BAD);
        DUE.is("32 sheet -1", x.sheet(-1, 0, 1), ChoirWires.BAD);
        DUE.is("32 lane 3, n -1", x.sheet(0, 3, -1), ChoirWires.BAD);
        DUE.is("32 lane -1", x.sheet(0, -1, 1), ChoirWires.BAD);
        DUE.is("32 the row of 0 is there", x.drop(0), 0);
        DUE.is("32 the row of 40 is there", x.drop(3), 40);
        x.room(0);
        x.room(0);
        x.sheet(1, 2, 2);
        x.item(1, 2, 1, 99);
        x.sheet(1, 2, 2);
        DUE.is("32 a new row is of 0", x.wires(0, 1, 2, 0), 0);
        DUE.is("32 refused, it stays", x.sheet(1, 0, -5), ChoirWires.SIZE);
        DUE.is("32 of its lane", x.item(1, 2, 1, 5), 1);
    }

    private static void drops() {
        ChoirWires x = new ChoirWires();
        DUE.is("33 nothing", x.drop(2), ChoirWires.NULL);
        DUE.is("33 sheet 4", x.drop(4), ChoirWires.BAD);
        DUE.is("33 sheet -1", x.drop(-1), ChoirWires.BAD);
        x.sheet(2, 1, 6);
        DUE.is("33 six", x.drop(2), 6);
        DUE.is("33 nothing then", x.drop(2), ChoirWires.NULL);
        DUE.is("33 no row of its lane", x.item(2, 1, 0, 0), ChoirWires.NULL);
    }

    private static void items() {
        ChoirWires x = new ChoirWires();
        DUE.is("34 nothing", x.item(0, 0, 50, 0), ChoirWires.NULL);
        DUE.is("34 sheet 4", x.item(4, 0, 0, 0), ChoirWires.BAD);
        DUE.is("34 sheet -1", x.item(-1, 0, 0, 0), ChoirWires.BAD);
        DUE.is("34 lane 3 of nothing", x.item(0, 3, 0, 0), ChoirWires.BAD);
        DUE.is("34 lane -1", x.item(0, -1, 0, 0), ChoirWires.BAD);
        x.sheet(0, 1, 5);
        DUE.is("34 as bytes, too far", x.item(0, 0, 5, 0), ChoirWires.CAST);
        DUE.is("34 as ints", x.item(0, 2, 0, 0), ChoirWires.CAST);
        DUE.is("34 item 4", x.item(0, 1, 4, 0), 1);
        DUE.is("34 item 5", x.item(0, 1, 5, 0), ChoirWires.INDEX);
        DUE.is("34 item -1", x.item(0, 1, -1, 0), ChoirWires.INDEX);
        DUE.is("34 item the greatest", x.item(0, 1, Integer.MAX_VALUE, 0), ChoirWires.INDEX);
        x.sheet(0, 1, 0);
        DUE.is("34 of none", x.item(0, 1, 0, 0), ChoirWires.INDEX);
    }

    /** Items are seen by wires alone. */
    private static void lowestBits() {
        ChoirWires x = Choirs.of(0, 0);
        int[] v = {0x105, 0x180, 0x10005, 0x18000, 0x1FF, 5, 0x7FFFFF05};
        int[][] want = {{5, 261, 261}, {-1, 384, 384}, {5, 5, -1}, {0, -1, -1}, {-1, -1, -1}, {5, 5, 5}, {5, -1, -1}};
        for (int i = 0; i < v.length; i++) {
            for (int lane = 0; lane < 3; lane++) {
                x.wire(0, 1, 0);
                x.sheet(0, lane, 2);
                DUE.is("34 item(0, lane, 1, " + v[i] + ")", x.item(0, lane, 1, v[i]), 1);
                int there = want[i][lane] < 0 ? ChoirWires.NOT : want[i][lane] == 0 ? 0 : 1;
                DUE.is("34 " + v[i] + " as lane " + lane, x.wires(0, 0, lane, 0), there);
                DUE.is("34 " + v[i] + " as lane " + lane + " takes", x.wire(0, 1, 0), Math.max(0, want[i][lane]));
            }
        }
    }

    /** Says the row of sheet 0, shorts, as the wires of eight rooms. */
    private static String row(ChoirWires x) {
        StringBuilder text = new StringBuilder();
        x.sheet(3, 1, 9);
        for (int i = 0; i < 8; i++) {
            x.copy(0, i, 3, 1, 1);
            x.wires(0, 3, 1, 0);
            text.append(x.wire(0, 1, 0)).append(' ');
        }
        return text.toString().trim();
    }

    private static void copies() {
        ChoirWires x = Choirs.of(0, 0, 0, 0, 0, 0, 0, 0);
        x.sheet(0, 1, 8);
        for (int i = 0; i < 8; i++) {
            x.item(0, 1, i, i + 1);
        }
        DUE.holds("35 as filled", row(x).equals("1 2 3 4 5 6 7 8"));
        DUE.is("35 to itself, up", x.copy(0, 0, 0, 2, 5), 5);
        DUE.holds("35 as if taken ahead, up", row(x).equals("1 2 1 2 3 4 5 8"));
        DUE.is("35 to itself, down", x.copy(0, 2, 0, 1, 6), 6);
        DUE.holds("35 as if taken ahead, down", row(x).equals("1 1 2 3 4 5 8 8"));
        x.sheet(1, 1, 3);
        x.item(1, 1, 2, 300);
        DUE.is("35 from another", x.copy(1, 1, 0, 6, 2), 2);
        DUE.holds("35 came from another", row(x).equals("1 1 2 3 4 5 0 300"));
        DUE.is("35 none at the ends", x.copy(1, 3, 0, 8, 0), 0);
        DUE.is("35 all", x.copy(0, 0, 0, 0, 8), 8);
        DUE.is("35 the other stays", x.drop(1), 3);
    }

    private static void copiesRefused() {
        ChoirWires x = new ChoirWires();
        x.sheet(0, 1, 5);
        x.sheet(1, 1, 3);
        x.sheet(2, 2, 5);
        DUE.is("35 from 4", x.copy(4, 0, 3, 0, 1), ChoirWires.BAD);
        DUE.is("35 to 4", x.copy(3, 0, 4, 0, 1), ChoirWires.BAD);
        DUE.is("35 from -1", x.copy(-1, 0, 0, 0, 1), ChoirWires.BAD);
        DUE.is("35 to -1", x.copy(0, 0, -1, 0, 1), ChoirWires.BAD);
        DUE.is("35 from nothing", x.copy(3, 9, 0, 0, 1), ChoirWires.NULL);
        DUE.is("35 to nothing", x.copy(0, 9, 3, 0, 1), ChoirWires.NULL);
        DUE.is("35 from nothing to nothing", x.copy(3, 0, 3, 0, 0), ChoirWires.NULL);
        DUE.is("35 unlike, too far", x.copy(0, 9, 2, 0, 1), ChoirWires.CAST);
        DUE.is("35 unlike the other way", x.copy(2, 0, 0, 0, 0), ChoirWires.CAST);
        DUE.is("35 n -1", x.copy(0, 0, 1, 0, -1), ChoirWires.INDEX);
        DUE.is("35 i -1", x.copy(0, -1, 1, 0, 1), ChoirWires.INDEX);
        DUE.is("35 j -1", x.copy(0, 0, 1, -1, 1), ChoirWires.INDEX);
        DUE.is("35 too far in the one", x.copy(1, 1, 0, 0, 3), ChoirWires.INDEX);
        DUE.is("35 too far in the other", x.copy(0, 0, 1, 1, 3), ChoirWires.INDEX);
        DUE.is("35 none from behind the end", x.copy(0, 6, 1, 0, 0), ChoirWires.INDEX);
        DUE.is("35 none to behind the end", x.copy(0, 0, 1, 4, 0), ChoirWires.INDEX);
        DUE.is("35 the greatest n", x.copy(0, 1, 1, 1, Integer.MAX_VALUE), ChoirWires.INDEX);
        DUE.is("35 the greatest i", x.copy(0, Integer.MAX_VALUE, 1, 0, 1), ChoirWires.INDEX);
        DUE.is("35 the least n", x.copy(0, 0, 1, 0, Integer.MIN_VALUE), ChoirWires.INDEX);
    }
}
