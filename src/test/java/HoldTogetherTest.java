/** Promises 12 and 13. */
public final class HoldTogetherTest {
    private static final Due DUE = new Due("HoldTogetherTest");

    public static void main(String[] args) {
        hold();
        holdOfFew();
        oneEar();
        someEars();
        earsThatFail();
        togetherRefused();
        DUE.end();
    }

    private static void hold() {
        ChoirWires x = Choirs.of(0, 1, 2, 4, 5);
        x.wire(1, 0, 30);
        x.wire(2, 0, 70);
        x.wire(3, 0, 300);
        x.wire(4, 0, 400);
        DUE.is("12 the greatest of those who sing", x.hold(0, 0), 70);
        DUE.is("12 cost", x.hold(0, 1), 40);
        DUE.is("12 a wire is not there", x.hold(1, 0), ChoirWires.NONE);
        DUE.is("12 cost, a wire is not there", x.hold(1, 1), ChoirWires.NONE);
        x.wire(0, 3, 5);
        x.wire(1, 3, 6);
        DUE.is("12 a silent one, a wire is not there", x.hold(3, 0), ChoirWires.NONE);
        x.wire(2, 3, 9);
        DUE.is("12 a silent one", x.hold(3, 0), 9);
        DUE.is("12 its cost", x.hold(3, 1), 4 + 3);
        x.wire(0, 4, 5);
        x.wire(1, 4, 5);
        x.wire(2, 4, 5);
        DUE.is("12 a cut one", x.hold(4, 0), ChoirWires.NONE);
        DUE.is("12 a cut one's cost", x.hold(4, 1), ChoirWires.NONE);
        DUE.is("12 what 2", x.hold(0, 2), ChoirWires.BAD);
        DUE.is("12 what -1", x.hold(0, -1), ChoirWires.BAD);
        DUE.is("12 room 5", x.hold(5, 0), ChoirWires.BAD);
        x.wire(2, 1, 8);
        DUE.is("12 the first one's wire is not there", x.hold(1, 0), ChoirWires.NONE);
        x.wire(0, 1, 50);
        DUE.is("12 the first one's is the greatest", x.hold(1, 0), 50);
        x.wire(0, 1, 3);
        DUE.is("12 the first one costs", x.hold(1, 1), 5);
        DUE.is("12 room -1", x.hold(-1, 0), ChoirWires.BAD);
    }

    private static void holdOfFew() {
        ChoirWires x = Choirs.of(0, 4, 5);
        DUE.is("12 it alone sings", x.hold(0, 0), 0);
        DUE.is("12 its cost", x.hold(0, 1), 0);
        x.set(0, 0, 5);
        DUE.is("12 nobody sings, it is silent", x.hold(1, 0), 0);
        DUE.is("12 nobody sings, it is cut", x.hold(2, 0), ChoirWires.NONE);
    }

    private static void oneEar() {
        ChoirWires x = Choirs.of(0, 0, 3, 4);
        x.wire(0, 3, 120);
        x.wire(1, 3, 20);
        x.wire(2, 3, 50);
        DUE.is("13 it can", x.together(8, 8), ChoirWires.NONE);
        DUE.is("13 room 0", x.together(8, 0), 100);
        DUE.is("13 room 1", x.together(8, 1), 0);
        DUE.is("13 room 2", x.together(8, 2), 30);
        DUE.is("13 the ear, silent", x.together(8, 3), ChoirWires.NOT);
        x.wire(0, 1, 9);
        x.wire(2, 1, 1);
        DUE.is("13 an ear that sings is left out", x.together(2, 0), 8);
        DUE.is("13 an ear that sings", x.together(2, 1), ChoirWires.NOT);
    }

    private static void someEars() {
        ChoirWires x = Choirs.of(0, 0, 4, 4, 4);
        x.wire(0, 2, 50);
        x.wire(1, 2, 40);
        x.wire(0, 3, 11);
        x.wire(1, 3, 1);
        DUE.is("13 both ears", x.together(12, 8), ChoirWires.NONE);
        DUE.is("13 ahead by 10", x.together(12, 0), 10);
        DUE.is("13 ahead by none", x.together(12, 1), 0);
        x.wire(0, 4, 10);
        x.wire(1, 4, 1);
        DUE.is("13 the third ear hears apart", x.together(28, 8), 4);
        DUE.is("13 so it can't be", x.together(28, 0), ChoirWires.NONE);
        DUE.is("13 of the last two the later one", x.together(24, 8), 4);
        x.wire(0, 3, 12);
        DUE.is("13 now the second ear is the first to fail", x.together(28, 8), 3);
        x.wire(0, 3, 10);
        DUE.is("13 the last two agree", x.together(24, 8), ChoirWires.NONE);
        DUE.is("13 but not with the first", x.together(28, 8), 3);

        ChoirWires many = Choirs.meshed(20, 0, 0, 0, 0, 4, 4);
        DUE.is("13 four agree", many.together(48, 8), ChoirWires.NONE);
        for (int room = 0; room < 4; room++) {
            many.wire(room, 5, 21);
            DUE.is("13 all but room " + room, many.together(48, 8), 5);
            many.wire(room, 4, 21);
            DUE.is("13 with both ears later", many.together(48, room), 1);
            many.wire(room, 4, 20);
            many.wire(room, 5, 20);
        }
        many.wire(0, 4, 1);
        DUE.is("13 the first one's is the shortest", many.together(16, 3), 19);
        DUE.is("13 it is ahead of none", many.together(16, 0), 0);
    }

    private static void earsThatFail() {
        ChoirWires x = Choirs.of(0, 0, 4, 5);
        x.wire(0, 2, 5);
        DUE.is("13 a wire is not there", x.together(4, 8), 2);
        DUE.is("13 a wire is not there, the lead", x.together(4, 0), ChoirWires.NONE);
        x.wire(1, 2, 5);
        x.wire(0, 3, 5);
        x.wire(1, 3, 5);
        DUE.is("13 the ear is cut", x.together(8, 8), 3);
        DUE.is("13 the first that fails", x.together(12, 8), 3);
        DUE.is("13 all who sing are ears, they do not sing then", x.together(15, 8), ChoirWires.NONE);
        DUE.is("13 then each is an ear", x.together(15, 0), ChoirWires.NOT);
        x.set(0, 0, 4);
        x.set(1, 0, 5);
        DUE.is("13 nobody who sings", x.together(12, 8), ChoirWires.NONE);
        DUE.is("13 nobody who sings, a silent one", x.together(12, 0), ChoirWires.NOT);
        DUE.is("13 nobody who sings, a cut one", x.together(12, 1), ChoirWires.NOT);
    }

    private static void togetherRefused() {
        ChoirWires x = Choirs.of(0, 0, 0);
        DUE.is("13 no ears", x.together(0, 8), ChoirWires.BAD);
        DUE.is("13 an ear that is not there", x.together(8, 8), ChoirWires.BAD);
        DUE.is("13 one that is and one that is not", x.together(9, 8), ChoirWires.BAD);
        DUE.is("13 ears below 0", x.together(-1, 8), ChoirWires.BAD);
        DUE.is("13 the highest bit", x.together(Integer.MIN_VALUE, 8), ChoirWires.BAD);
        DUE.is("13 what -1", x.together(1, -1), ChoirWires.BAD);
        DUE.is("13 what 9", x.together(1, 9), ChoirWires.BAD);
        DUE.is("13 a room that is not there", x.together(1, 3), ChoirWires.BAD);
        DUE.is("13 an ear, though it can't be", x.together(1, 0), ChoirWires.NOT);
        DUE.is("13 it can't be", x.together(1, 1), ChoirWires.NONE);
        ChoirWires full = Choirs.meshed(9, 0, 0, 0, 0, 0, 0, 0, 0);
        DUE.is("13 eight rooms", full.together(128, 6), 0);
        DUE.is("13 a ninth ear", full.together(256, 8), ChoirWires.BAD);
    }
}
