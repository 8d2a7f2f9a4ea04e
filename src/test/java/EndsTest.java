/** What the least and the greatest numbers that may be told do, and the steps just beside a turn. */
public final class EndsTest {
    private static final Due DUE = new Due("EndsTest");
    private static final int BAD = ChoirWires.BAD, NOT = ChoirWires.NOT, NONE = ChoirWires.NONE;

    public static void main(String[] args) {
        kinds();
        greatestTimes();
        leastTimes();
        late();
        pull();
        early();
        guess();
        oneAbove();
        meanIsCut();
        pullIsCut();
        allByTheBeatAhead();
        heardByWhom();
        paceAtIsCut();
        slowsAbove();
        slowsByWiresThatAre();
        holdEnds();
        togetherEnds();
        distances();
        seaEnds();
        breathAndBeat();
        groups();
        bestGroups();
        waits();
        lowestBits();
        ownItem();
        DUE.end();
    }

    private static void kinds() {
        int[] sings = {1, 1, 1, 1, 0, 0};
        for (int kind = 0; kind <= 5; kind++) {
            ChoirWires x = Choirs.of(kind);
            DUE.is("11 kind " + kind + " sings", x.count(1), sings[kind]);
            DUE.is("7 kind " + kind + " has times", x.time(0, 0), sings[kind] == 1 ? 0 : -1000004);
            DUE.is("22 kind " + kind + " goes on", x.goes(0, 0), kind == 5 ? NONE : 0);
        }
    }

    private static ChoirWires eight(int blinks, int late, int pull, int pace) {
        ChoirWires x = Choirs.meshed(blinks, 0, 0, 0, 0, 0, 0, 0, 0);
        for (int room = 0; room < 8; room++) {
            x.set(room, 1, late);
            x.set(room, 2, pull);
        }
        x.pace(pace);
        return x;
    }

    private static void greatestTimes() {
        ChoirWires x = eight(400, 99, 100, 2000);
        DUE.is("7 the greatest time", x.time(7, 40), 40 * 2499);
        DUE.is("8 the greatest pace", x.paceAt(40), 2499);
        DUE.is("9 above 2498 at 400 alone", x.slows(40, 2498), 400);
        DUE.is("9 above 2499 never", x.slows(40, 2499), NONE);
        DUE.is("10 all alike", x.apart(40), 0);
        DUE.is("12 hold", x.hold(7, 0), 400);
        DUE.is("12 cost", x.hold(7, 1), 0);
        x.room(0);
        ChoirWires two = Choirs.of(0, 2);
        two.pace(2000);
        two.set(0, 1, 99);
        two.set(1, 3, 999);
        DUE.is("10 the furthest apart", two.apart(40), 40 * 99 + 999);
    }

    private static void leastTimes() {
        ChoirWires x = eight(1, 0, 0, 1);
        DUE.is("7 the least pace", x.time(7, 40), 40);
        DUE.is("8 the least pace", x.paceAt(40), 1);
        DUE.is("9 above 0 at once", x.slows(40, 0), 1);
        DUE.is("9 above 1 never", x.slows(40, 1), NONE);
        for (int room = 0; room < 8; room++) {
            x.set(room, 2, 100);
        }
        DUE.is("7 the shortest wires", x.time(0, 40), 80);
        DUE.is("9 above 1 at once", x.slows(40, 1), 1);
        DUE.is("9 above 400 at the longest", x.slows(40, 400), 400);
        DUE.is("9 above 401 never", x.slows(40, 401), NONE);
    }

    private static void late() {
        ChoirWires x = Choirs.of(0);
        int[] told = {0, 1, 98, 99};
        for (int v : told) {
            x.set(0, 1, v);
            DUE.is("7 late by " + v, x.time(0, 40), 40 * (500 + v));
        }
        x = Choirs.of(1, 2);
        x.set(0, 1, 99);
        x.set(1, 1, 99);
        DUE.is("7 one ahead is never late", x.time(0, 40), 20000);
        DUE.is("7 a leader is never late", x.time(1, 40), 20000);
    }

    private static void pull() {
        ChoirWires x = Choirs.of(0, 1);
        x.wire(1, 0, 400);
        int[] told = {0, 1, 99, 100};
        int[] want = {510, 514, 906, 910};
        for (int i = 0; i < told.length; i++) {
            x.set(0, 2, told[i]);
            DUE.is("7 pulled by " + told[i], x.time(0, 1), want[i]);
        }
        x.set(1, 2, 100);
        x.wire(0, 1, 400);
        DUE.is("7 one ahead is never pulled", x.time(1, 1), 500);
    }

    private static void early() {
        for (int kind = 0; kind <= 3; kind++) {
            ChoirWires x = Choirs.of(kind);
            x.set(0, 3, 999);
            DUE.is("7 the earliest of kind " + kind, x.time(0, 0), kind == 2 ? -999 : 0);
            x.pace(1);
            x.set(0, 1, 0);
            DUE.is("7 its last beat", x.time(0, 40), kind == 2 ? -959 : 40);
            DUE.is("7 its first beat", x.time(0, 1), kind == 2 ? -998 : 1);
            x.set(0, 3, 0);
            DUE.is("7 not early", x.time(0, 0), 0);
        }
        ChoirWires leaders = Choirs.of(2, 4, 2);
        leaders.set(0, 3, 999);
        DUE.is("10 one at 0, one below", leaders.apart(0), 999);
        leaders.set(2, 3, 990);
        DUE.is("10 all below 0", leaders.apart(0), 9);
        leaders.pace(1);
        DUE.is("10 all below 0 to the last", leaders.apart(40), 9);
    }

    private static void guess() {
        ChoirWires x = Choirs.of(3, 1);
        x.set(0, 2, 100);
        x.wire(1, 0, 1);
        int[] told = {0, 1, 2, 399, 400};
        for (int v : told) {
            x.set(0, 4, v);
            DUE.is("7 guessed " + v + " of 1", x.time(0, 1), 511 - v);
        }
        x.wire(1, 0, 400);
        DUE.is("7 guessed 400 of 400", x.time(0, 1), 510);
        x.set(0, 4, 0);
        DUE.is("7 guessed 0 of 400", x.time(0, 1), 910);
        x.set(0, 0, 0);
        x.set(0, 4, 400);
        DUE.is("7 a follower does not guess", x.time(0, 1), 910);
        x.set(0, 0, 3);
        x.room(1);
        x.wire(2, 0, 400);
        DUE.is("7 each one's wire is guessed", x.time(0, 1), 510);
    }

    /** By pulls that would leave it one above its time ahead, none above, and below. */
    private static void oneAbove() {
        ChoirWires x = Choirs.of(0, 2);
        x.pace(1);
        x.set(0, 1, 0);
        x.set(0, 2, 100);
        x.wire(1, 0, 1);
        int[] early = {0, 1, 2, 3, 999};
        int[] want = {2, 1, 1, 1, 1};
        for (int i = 0; i < early.length; i++) {
            x.set(1, 3, early[i]);
            DUE.is("7 pulled by " + (1 - early[i]), x.time(0, 1), want[i]);
        }
        DUE.is("7 one above, forty times", x.time(0, 40), 40);
        x.set(0, 0, 3);
        x.set(0, 4, 400);
        DUE.is("7 a guessing one too", x.time(0, 40), 40);
        DUE.is("8 so is the pace", x.paceAt(40), 1);
        DUE.is("9 and slows never", x.slows(40, 1), NONE);
    }

    private static void meanIsCut() {
        ChoirWires x = Choirs.of(0, 2, 2);
        x.set(0, 2, 100);
        x.wire(1, 0, 10);
        x.wire(2, 0, 10);
        int[] early = {9, 10, 11, 12, 13};
        int[] mean = {0, 0, 0, -1, -1};
        for (int i = 0; i < early.length; i++) {
            x.set(1, 3, 10);
            x.set(2, 3, early[i]);
            DUE.is("7 the mean of 0 and " + (10 - early[i]), x.time(0, 1), 510 + mean[i]);
        }
        x.set(2, 3, 7);
        DUE.is("7 the mean of 0 and 3", x.time(0, 1), 511);
        x.set(0, 0, 3);
        x.set(0, 4, 3);
        x.set(2, 3, 8);
        DUE.is("7 guessed: the mean of -3 and -1", x.time(0, 1), 508);
        x.set(2, 3, 9);
        DUE.is("7 guessed: the mean of -3 and -2 is cut behind the guess", x.time(0, 1), 508);
    }

    private static void pullIsCut() {
        ChoirWires x = Choirs.of(0, 2);
        x.set(0, 2, 1);
        int[] early = {0, 0, 0, 0, 200, 201, 299, 300, 301};
        int[] wire = {99, 100, 199, 200, 101, 101, 100, 100, 100};
        int[] want = {0, 1, 1, 2, 0, -1, -1, -2, -2};
        for (int i = 0; i < early.length; i++) {
            x.set(1, 3, early[i]);
            x.wire(1, 0, wire[i]);
            DUE.is("7 a hundredth of " + (wire[i] - early[i]), x.time(0, 1), 510 + want[i]);
        }
    }

    /** Whichever comes first by number, both go by the other's time at the beat ahead. */
    private static void allByTheBeatAhead() {
        for (int first = 0; first < 2; first++) {
            ChoirWires x = Choirs.meshed(10, 0, 0);
            int other = 1 - first;
            x.set(first, 1, 0);
            x.set(first, 2, 100);
            x.set(other, 2, 100);
            DUE.is("7 the one at 1", x.time(first, 1), 510);
            DUE.is("7 the other at 1", x.time(other, 1), 520);
            DUE.is("7 the one at 2", x.time(first, 2), 510 + 500 + 20);
            DUE.is("7 the other at 2", x.time(other, 2), 520 + 510);
        }
    }

    private static void heardByWhom() {
        for (int kind = 0; kind <= 5; kind++) {
            ChoirWires x = Choirs.of(0, kind);
            x.wire(1, 0, 100);
            DUE.is("7 kind " + kind + " is heard", x.time(0, 1), kind <= 3 ? 560 : 510);
            x.wire(1, 0, 0);
            x.wire(0, 1, 100);
            DUE.is("7 only by a wire to it", x.time(0, 1), 510);
        }
    }

    private static void paceAtIsCut() {
        ChoirWires x = Choirs.of(0, 1, 1);
        int[] late = {0, 1, 2, 3, 5, 6};
        for (int v : late) {
            x.set(0, 1, v);
            DUE.is("8 the mean of 500 twice and " + (500 + v), x.paceAt(1), 500 + v / 3);
        }
        x.room(4);
        x.room(5);
        DUE.is("8 silent and cut ones are not of it", x.paceAt(1), 502);
    }

    private static void slowsAbove() {
        ChoirWires x = Choirs.meshed(1, 0, 0);
        x.set(0, 2, 100);
        x.set(1, 2, 100);
        for (int d = 1; d <= 400; d += 133) {
            DUE.is("9 above " + (509 + d), x.slows(1, 509 + d), d);
        }
        DUE.is("9 above 510 + 400", x.slows(1, 910), NONE);
        DUE.is("9 the wires are as they were", x.time(0, 1), 511);
        DUE.is("9 beat 2 goes by beat 1", x.slows(2, 909), 400);
    }

    private static void slowsByWiresThatAre() {
        ChoirWires x = Choirs.of(0, 1, 1);
        x.set(0, 2, 100);
        x.wire(1, 0, 400);
        x.wire(2, 0, 1);
        DUE.is("9 the longer one too takes D", x.slows(1, 505), 8);
        x.wire(2, 0, 0);
        DUE.is("9 the mean stays, one alone", x.slows(1, 505), 8);
        x.set(1, 0, 4);
        DUE.is("9 nobody is heard any more", x.slows(1, 505), NONE);
    }

    private static void holdEnds() {
        ChoirWires x = Choirs.meshed(1, 0, 0, 0, 0, 0, 0, 0, 0);
        DUE.is("12 the shortest wires", x.hold(0, 0), 1);
        DUE.is("12 cost nothing", x.hold(0, 1), 0);
        x.wire(4, 0, 400);
        DUE.is("12 one of the longest", x.hold(0, 0), 400);
        DUE.is("12 costs all others", x.hold(0, 1), 6 * 399);
        x.set(4, 0, 4);
        DUE.is("12 not, if it is silent", x.hold(0, 0), 1);
        x.set(0, 0, 4);
        DUE.is("12 a silent one hears too", x.hold(0, 0), 1);
        x.wire(4, 0, 0);
        DUE.is("12 a silent one's wire may be missing", x.hold(0, 0), 1);
        x.set(4, 0, 5);
        DUE.is("12 a cut one's too", x.hold(0, 0), 1);
        x.set(4, 0, 3);
        DUE.is("12 not, if it sings", x.hold(0, 0), NONE);
        x.wire(4, 0, 1);
        x.set(0, 0, 5);
        DUE.is("12 it is cut", x.hold(0, 0), NONE);
    }

    private static void togetherEnds() {
        ChoirWires x = Choirs.of(0, 0, 4, 4);
        x.wire(0, 2, 400);
        x.wire(1, 2, 1);
        x.wire(0, 3, 400);
        x.wire(1, 3, 1);
        DUE.is("13 as far ahead as can be", x.together(12, 0), 399);
        DUE.is("13 the least one 0", x.together(12, 1), 0);
        x.wire(1, 3, 2);
        DUE.is("13 one blink is too much", x.together(12, 8), 3);
        x.wire(1, 3, 0);
        DUE.is("13 a wire is not there", x.together(12, 8), 3);
        DUE.is("13 not for that ear", x.together(4, 8), NONE);
        x.set(3, 0, 5);
        x.wire(1, 3, 1);
        DUE.is("13 the ear is cut", x.together(12, 8), 3);
        x.set(2, 0, 5);
        DUE.is("13 the first of two that are", x.together(12, 8), 2);
        x.set(1, 0, 4);
        DUE.is("13 someone still sings", x.together(8, 8), 3);
        x.set(0, 0, 4);
        DUE.is("13 nobody sings", x.together(8, 8), NONE);
    }

    private static void distances() {
        for (char one = 'a'; one <= 'g'; one++) {
            for (char other = 'a'; other <= 'g'; other++) {
                ChoirWires x = new ChoirWires();
                Choirs.read(x, "" + one + other);
                int apart = Math.abs(one - other);
                DUE.is("18 " + other + " on " + one, x.clashes(1), apart == 0 || apart == 2 || apart == 4 ? 0 : 1);
                x.fit(1 << apart);
                DUE.is("18 " + other + " on " + one + " fits", x.clashes(1), 0);
                x.fit(127 ^ 1 << apart);
                DUE.is("18 " + other + " on " + one + " does not", x.clashes(1), 1);
            }
        }
        for (String text : new String[] {"a-", "-a", "--", "a.-.", "-.b."}) {
            ChoirWires x = new ChoirWires();
            Choirs.read(x, text);
            x.fit(0);
            DUE.is("18 a rest never clashes: " + text, x.clashes(1), 0);
            DUE.is("19 so it is a canon: " + text, x.canon(0), 1);
        }
    }

    private static void seaEnds() {
        ChoirWires x = new ChoirWires();
        for (int d = 1; d <= 63; d++) {
            int greatest = Math.min(2000, 40000 / d);
            DUE.is("20 pace 1 by " + d, x.sea(d, d), 1);
            DUE.is("20 the greatest by " + d, x.sea(d, greatest * d), greatest);
            int above = (greatest + 1) * d;
            DUE.is("20 above it by " + d, x.sea(d, above), above > 40000 ? BAD : NONE);
            DUE.is("20 one blink more by " + d, x.sea(d, 100 * d + 1), d == 1 ? 101 : NONE);
            DUE.is("20 one blink less by " + d, x.sea(d, 100 * d - 1), d == 1 ? 99 : NONE);
        }
    }

    private static void breathAndBeat() {
        for (int beats = 1; beats <= 9; beats++) {
            ChoirWires x = Choirs.of(0);
            Choirs.read(x, "c" + beats + ".d");
            for (int at = 0; at <= 63; at++) {
                x.set(0, 5, at);
                DUE.is("22 a breath behind " + beats + " beats, at " + at, x.goes(0, 0), at >= beats ? beats : 0);
            }
        }
        ChoirWires two = Choirs.meshed(1, 0, 4);
        Choirs.read(two, "a2.b2.c");
        two.set(0, 5, 63);
        int[] want = {0, 0, 2, 2, 4, 4};
        for (int at = 0; at < want.length; at++) {
            two.set(1, 5, at);
            DUE.is("22 the least is the other's, " + at, two.goes(0, 1), want[at]);
        }
    }

    private static int lostOf(long bits, int g) {
        ChoirWires x = new ChoirWires();
        x.loss(bits);
        return x.lost(0, g);
    }

    private static void groups() {
        for (int g = 1; g <= 12; g++) {
            int last = (24 + g - 1) / g - 1;
            DUE.is("25 the first and its sum by " + g, lostOf(1L | 1L << 24, g), 1);
            DUE.is("25 the first and the next sum by " + g, lostOf(1L | 1L << 25, g), 0);
            DUE.is("25 the last and its sum by " + g, lostOf(1L << 23 | 1L << 24 + last, g), 1 << 23);
            DUE.is("25 the last and the sum ahead by " + g, lostOf(1L << 23 | 1L << 23 + last, g), 0);
            if (last < 23) {
                DUE.is("25 the last and a sum that is none by " + g, lostOf(1L << 23 | 1L << 25 + last, g), 0);
            }
            DUE.is("25 two of two groups by " + g, lostOf(1L << g - 1 | 1L << g, g), 0);
            if (g > 1) {
                DUE.is("25 two of one by " + g, lostOf(1L << g - 2 | 1L << g - 1, g), 1 << g - 2 | 1 << g - 1);
                DUE.is("25 the ends of one by " + g, lostOf(1L | 1L << g - 1, g), 1 | 1 << g - 1);
            }
            DUE.is("25 all by " + g, lostOf((1L << 24) - 1, g), g == 1 ? 0 : (1 << 24) - 1 - alone(g));
            DUE.is("25 all and all sums by " + g, lostOf((1L << 48) - 1, g), (1 << 24) - 1);
            DUE.is("25 sums alone by " + g, lostOf((1L << 48) - (1L << 24), g), 0);
        }
    }

    /** The last piece, where it is a group of its own. */
    private static int alone(int g) {
        return 24 % g == 1 ? 1 << 23 : 0;
    }

    private static void bestGroups() {
        for (int g = 1; g <= 12; g++) {
            ChoirWires x = new ChoirWires();
            x.loss(1L | 1L << g);
            DUE.is("26 0 and " + g + " are parted by no more than " + g, x.group(), g);
            x.loss(1L << 23 | 1L << 47);
            DUE.is("26 the last sum is one by 1 alone", x.group(), g == 1 ? NONE : g);
        }
        ChoirWires x = new ChoirWires();
        x.loss(1L | 1L << 1);
        DUE.is("26 by 1 at least", x.group(), 1);
        x.loss(1L | 1L << 24);
        DUE.is("26 by none", x.group(), NONE);
    }

    private static void waits() {
        ChoirWires two = Choirs.of(0, 0);
        Choirs.pair(two, 0, 1, 1, 1);
        DUE.is("29 the least", two.net(), 1);
        Choirs.pair(two, 0, 1, 1, 400);
        DUE.is("29 the greater way", two.net(), 400);
        Choirs.pair(two, 0, 1, 400, 1);
        DUE.is("29 the greater way is the other", two.net(), 400);
        ChoirWires six = Choirs.meshed(400, 0, 0, 0, 0, 0, 0);
        int[] want = {NONE, 2000, 1200, 1200, 800, 800, 800};
        for (int most = 1; most <= 7; most++) {
            six.most(most);
            DUE.is("29 six, in no more pairs than " + most, six.net(), want[most - 1]);
        }
        six.wire(0, 1, 0);
        DUE.is("29 a pair less is no matter", six.net(), 800);
        for (int to = 2; to < 6; to++) {
            six.wire(0, to, 0);
        }
        DUE.is("29 one that none hears can't be joined", six.net(), NONE);
        six.set(0, 0, 5);
        DUE.is("29 but it may be cut", six.net(), 800);
    }

    /** What an item of a lane is, told by the wire that it makes: NOT, if it is not 0 .. 400. */
    private static int seenAs(int lane, int v) {
        ChoirWires x = Choirs.of(0, 0);
        x.wire(0, 1, 399);
        x.sheet(0, lane, 2);
        x.item(0, lane, 1, v);
        int answer = x.wires(0, 0, lane, 0);
        int took = x.wire(0, 1, 0);
        DUE.is("34 " + v + " in lane " + lane + " counts", answer, answer == NOT ? NOT : took == 0 ? 0 : 1);
        return answer == NOT ? NOT : took;
    }

    private static void lowestBits() {
        int[] v = {0, 1, 127, 128, 255, 256, 257, 383, 384, 400, 401, 32767, 32768, 65535, 65536, 65537, 65936, 65937,
            -1, -128, -129, -255, -256, -65136, -65536, Integer.MIN_VALUE, Integer.MAX_VALUE, 0x10000190, 0x7FFF007F};
        int[] bytes = {0, 1, 127, NOT, NOT, 0, 1, 127, NOT, NOT, NOT, NOT, 0, NOT, 0, 1, NOT, NOT,
            NOT, NOT, 127, 1, 0, NOT, 0, 0, NOT, NOT, 127};
        int[] shorts = {0, 1, 127, 128, 255, 256, 257, 383, 384, 400, NOT, NOT, NOT, NOT, 0, 1, 400, NOT,
            NOT, NOT, NOT, NOT, NOT, 400, 0, 0, NOT, 400, 127};
        for (int i = 0; i < v.length; i++) {
            DUE.is("34 the lowest 8 of " + v[i], seenAs(0, v[i]), bytes[i]);
            DUE.is("34 the lowest 16 of " + v[i], seenAs(1, v[i]), shorts[i]);
            DUE.is("34 all 32 of " + v[i], seenAs(2, v[i]), v[i] < 0 || v[i] > 400 ? NOT : v[i]);
        }
        for (int bit = 8; bit < 32; bit++) {
            DUE.is("34 bit " + bit + " is none of a byte", seenAs(0, 5 | 1 << bit), 5);
        }
        for (int bit = 16; bit < 32; bit++) {
            DUE.is("34 bit " + bit + " is none of a short", seenAs(1, 5 | 1 << bit), 5);
            DUE.is("34 bit " + bit + " is one of an int", seenAs(2, 5 | 1 << bit), NOT);
        }
    }

    /** Its lowest bits are what must be 0. */
    private static void ownItem() {
        int[] v = {256, 65536, 1, -1, 0};
        int[][] want = {{0, NOT, NOT}, {0, 0, NOT}, {NOT, NOT, NOT}, {NOT, NOT, NOT}, {0, 0, 0}};
        for (int i = 0; i < v.length; i++) {
            for (int lane = 0; lane < 3; lane++) {
                ChoirWires x = Choirs.of(0, 0);
                x.sheet(3, lane, 2);
                x.item(3, lane, 1, v[i]);
                DUE.is("5 its own, " + v[i] + " in lane " + lane, x.wires(1, 3, lane, 0), want[i][lane]);
            }
        }
    }
}
