/** Promises 24 to 29. */
public final class LossNetTest {
    private static final Due DUE = new Due("LossNetTest");

    public static void main(String[] args) {
        loss();
        lost();
        lastGroup();
        group();
        clear();
        most();
        netOfFew();
        netBothWays();
        netWithMost();
        netRooms();
        DUE.end();
    }

    private static void loss() {
        ChoirWires x = new ChoirWires();
        DUE.is("24 bit 48", x.loss(1L << 48), ChoirWires.BAD);
        DUE.is("24 below 0", x.loss(-1), ChoirWires.BAD);
        DUE.is("24 the highest bit", x.loss(Long.MIN_VALUE), ChoirWires.BAD);
        DUE.is("24 all bits", x.loss((1L << 48) - 1), 0);
        for (int row = 1; row < 8; row++) {
            DUE.is("24 row " + row, x.loss(row), row);
        }
        DUE.is("24 a ninth", x.loss(0), ChoirWires.FULL);
        DUE.is("24 a bad ninth", x.loss(-1), ChoirWires.BAD);
        DUE.is("24 how many", x.count(5), 8);
    }

    private static void lost() {
        ChoirWires x = new ChoirWires();
        x.loss(0b1001L);
        x.loss(1L << 3 | 1L << 24);
        x.loss(1L << 3 | 1L << 25);
        DUE.is("25 alone in groups of 3", x.lost(0, 3), 0);
        DUE.is("25 two in a group of 4", x.lost(0, 4), 9);
        DUE.is("25 with its sum, groups of 4", x.lost(1, 4), 8);
        DUE.is("25 another's sum, groups of 3", x.lost(1, 3), 0);
        DUE.is("25 with its sum, groups of 3", x.lost(2, 3), 8);
        DUE.is("25 another's sum, groups of 4", x.lost(2, 4), 0);
        DUE.is("25 row 3", x.lost(3, 1), ChoirWires.BAD);
        DUE.is("25 row -1", x.lost(-1, 1), ChoirWires.BAD);
        DUE.is("25 g 0", x.lost(0, 0), ChoirWires.BAD);
        DUE.is("25 g 13", x.lost(0, 13), ChoirWires.BAD);
        DUE.is("25 g -1", x.lost(0, -1), ChoirWires.BAD);
    }

    private static void lastGroup() {
        ChoirWires x = new ChoirWires();
        x.loss(1L << 20 | 1L << 23);
        x.loss(1L << 23 | 1L << 28);
        x.loss(1L << 23 | 1L << 47);
        x.loss(1L << 19 | 1L << 20);
        DUE.is("25 20 and 23 are the last four of 5", x.lost(0, 5), 1 << 20 | 1 << 23);
        DUE.is("25 but not by 7: 21 .. 23", x.lost(0, 7), 0);
        DUE.is("25 the fifth sum is the last one's by 5", x.lost(1, 5), 1 << 23);
        DUE.is("25 by 7 there is no fifth sum", x.lost(1, 7), 0);
        DUE.is("25 the last sum by 1", x.lost(2, 1), 1 << 23);
        DUE.is("25 no sum by 2", x.lost(2, 2), 0);
        DUE.is("25 19 and 20 are parted by 5", x.lost(3, 5), 0);
        DUE.is("25 but not by 12", x.lost(3, 12), 1 << 19 | 1 << 20);
    }

    private static void group() {
        ChoirWires x = new ChoirWires();
        DUE.is("26 no rows", x.group(), 12);
        x.loss(1L << 47 | 1L << 26);
        DUE.is("26 sums alone are no matter", x.group(), 12);
        x.loss(1L << 11 | 1L << 12);
        DUE.is("26 parted by 12", x.group(), 12);
        x.loss(1L << 0 | 1L << 11);
        DUE.is("26 parted by 11, but 11 and 12 are not, nor by 10, 9, 8, 7", x.group(), 6);
        x.loss(1L << 0 | 1L << 1);
        DUE.is("26 parted by 1 alone", x.group(), 1);
        x.loss(1L << 0 | 1L << 24);
        DUE.is("26 by none", x.group(), ChoirWires.NONE);
        x.clear();
        x.loss(1L << 0 | 1L << 8);
        DUE.is("26 the first row counts", x.group(), 8);
    }

    private static void clear() {
        ChoirWires x = new ChoirWires();
        DUE.is("27 none", x.clear(), 0);
        x.loss(3);
        x.loss(3);
        DUE.is("27 two", x.clear(), 2);
        DUE.is("27 they are gone", x.count(5), 0);
        DUE.is("27 for lost too", x.lost(0, 1), ChoirWires.BAD);
        DUE.is("27 for group too", x.group(), 12);
        DUE.is("27 the next is the first", x.loss(0), 0);
    }

    private static void most() {
        ChoirWires x = new ChoirWires();
        DUE.is("28 most(0)", x.most(0), ChoirWires.BAD);
        DUE.is("28 most(8)", x.most(8), ChoirWires.BAD);
        DUE.is("28 at first", x.most(1), 7);
        DUE.is("28 most(7)", x.most(7), 1);
        DUE.is("28 again", x.most(7), 7);
    }

    private static void netOfFew() {
        ChoirWires x = Choirs.of(0);
        DUE.is("29 one room", x.net(), ChoirWires.NOT);
        x.room(4);
        DUE.is("29 no wires", x.net(), ChoirWires.NONE);
        x.wire(0, 1, 30);
        DUE.is("29 one way", x.net(), ChoirWires.NONE);
        x.wire(1, 0, 20);
        DUE.is("29 both ways: the greater", x.net(), 30);
        x.most(1);
        DUE.is("29 a pair each is enough for two", x.net(), 30);
        x.room(0);
        Choirs.pair(x, 1, 2, 1, 1);
        DUE.is("29 but not for three", x.net(), ChoirWires.NONE);
        x.most(2);
        DUE.is("29 a chain", x.net(), 31);
        x.set(2, 0, 5);
        DUE.is("29 a cut one is left out", x.net(), 30);
    }

    private static void netBothWays() {
        ChoirWires x = Choirs.of(0, 0, 0);
        Choirs.pair(x, 0, 1, 100, 10);
        Choirs.pair(x, 1, 2, 10, 100);
        DUE.is("29 ways there and back do not mix", x.net(), 110);
        Choirs.pair(x, 0, 2, 50, 60);
        DUE.is("29 another tree has no shorter worst", x.net(), 110);
        Choirs.pair(x, 0, 2, 1, 2);
        DUE.is("29 the best of three", x.net(), 101);
        x.wire(2, 0, 0);
        DUE.is("29 a way that is gone", x.net(), 110);
    }

    private static void netWithMost() {
        ChoirWires x = Choirs.of(0, 0, 0, 0, 0, 0);
        for (int i = 1; i < 6; i++) {
            Choirs.pair(x, 0, i, 10, 10);
        }
        DUE.is("29 a star", x.net(), 20);
        Choirs.pair(x, 0, 3, 10, 90);
        Choirs.pair(x, 0, 4, 90, 10);
        DUE.is("29 two rays of it", x.net(), 180);
        Choirs.pair(x, 0, 3, 10, 10);
        Choirs.pair(x, 0, 4, 10, 10);
        x.most(5);
        DUE.is("29 five pairs do", x.net(), 20);
        x.most(4);
        DUE.is("29 four do not", x.net(), ChoirWires.NONE);
        Choirs.pair(x, 4, 5, 15, 15);
        DUE.is("29 but so", x.net(), 35);
        x.most(3);
        Choirs.pair(x, 2, 3, 1, 1);
        DUE.is("29 and so", x.net(), 36);
        x.most(2);
        DUE.is("29 room 1 is at an end", x.net(), ChoirWires.NONE);
        Choirs.pair(x, 1, 2, 1, 1);
        DUE.is("29 a chain of six", x.net(), 37);
    }

    private static void netRooms() {
        ChoirWires x = Choirs.meshed(7, 0, 1, 2, 3, 4, 0, 0);
        DUE.is("29 seven are too many", x.net(), ChoirWires.NOT);
        x.set(3, 0, 5);
        DUE.is("29 six, a silent one too", x.net(), 14);
        x.most(2);
        DUE.is("29 six in a chain", x.net(), 35);
        x.set(0, 0, 5);
        DUE.is("29 five in a chain", x.net(), 28);
        x.set(6, 0, 5);
        DUE.is("29 four in a chain", x.net(), 21);
        x.set(1, 0, 5);
        x.set(2, 0, 5);
        x.most(1);
        DUE.is("29 two", x.net(), 7);
        x.set(4, 0, 5);
        DUE.is("29 one", x.net(), ChoirWires.NOT);
        x.set(5, 0, 5);
        DUE.is("29 none", x.net(), ChoirWires.NOT);
    }
}
