import java.util.Arrays;

/**
 * A choir over a slow wire. The numbers beside the calls are those of the document's promises;
 * words in capitals are the document's terms.
 */
public final class ChoirWires {
    public static final int BAD = -1, NOT = -2, FULL = -3, NONE = -4, NULL = -11, CAST = -12, INDEX = -13, SIZE = -14;

    private static final int ROOMS = 8, BEATS = 40, MOST_BLINKS = 400, MOST_PACE = 2000, MOST_SLOW = 99999;
    private static final int AHEAD = 1, LEADER = 2, GUESSING = 3, SILENT = 4, CUT = 5;
    private static final int KIND = 0, LATE = 1, PULL = 2, EARLY = 3, GUESS = 4, AT_BEAT = 5, VALUES = 6;
    private static final int[] FIRST_VALUES = {0, 10, 50, 0, 0, 0};
    private static final int[] MOST_VALUES = {CUT, 99, 100, 999, 400, 63};
    private static final int TIME_REFUSED = -1000000;
    private static final int TAPE_BYTES = 120, SOUNDS = 40, PIECE_BEATS = 64, BREATH = 10, FAULT = -20, END = -1;
    private static final int FITS = 127, FIRST_FIT = 21, SEA_BEATS = 63, SEA_BLINKS = 40000;
    private static final int ROUNDS = 7;
    private static final int SENT = 24, LOSS_ROWS = 8, MOST_GROUP = 12;
    private static final long LOSS_BITS = (1L << 48) - 1;
    private static final int MOST_PAIRS = 7, NET_ROOMS = 6;
    private static final int IMAGES = 2;
    private static final int SHEETS = 4, ITEMS = 40, BYTES = 0, SHORTS = 1, INTS = 2, NOTHING = -1;

    private final Choir now = new Choir();
    /** Made when they are first kept: most objects never keep one, and it is the dearest thing here. */
    private final Choir[] images = new Choir[IMAGES];
    private final Tape tape = new Tape();
    private final Sheet[] sheets = {new Sheet(), new Sheet(), new Sheet(), new Sheet()};
    private final Beats beats = new Beats();
    private final Ears listeners = new Ears();
    private final Words words = new Words();
    private final Nets nets = new Nets();

    /** Promise 1. */
    public ChoirWires() {
    }

    // ---- 1 rooms, beats

    /** Promise 2. */
    public int room(int kind) {
        if (kind < 0 || kind > CUT) {
            return BAD;
        }
        return now.rooms.number == ROOMS ? FULL : now.rooms.add(kind);
    }

    /** Promise 3. */
    public int set(int room, int what, int v) {
        if (!now.rooms.has(room) || what < 0 || what >= VALUES || v < 0 || v > MOST_VALUES[what]) {
            return BAD;
        }
        return now.rooms.change(room, what, v);
    }

    /** Promise 4. */
    public int wire(int from, int to, int blinks) {
        if (!now.rooms.hasTwo(from, to) || blinks < 0 || blinks > MOST_BLINKS) {
            return BAD;
        }
        return now.rooms.lay(from, to, blinks);
    }

    /** Promise 5. */
    public int wires(int from, int sheet, int lane, int i) {
        if (!now.rooms.has(from) || !isSheet(sheet) || !isLane(lane)) {
            return BAD;
        }
        Sheet row = sheets[sheet];
        int refusal = row.refusal(lane);
        if (refusal != 0) {
            return refusal;
        }
        if (!row.holds(i, now.rooms.number)) {
            return INDEX;
        }
        return now.rooms.canLayAll(from, row, i) ? now.rooms.layAll(from, row, i) : NOT;
    }

    /** Promise 6. */
    public int pace(int blinks) {
        if (blinks < 1 || blinks > MOST_PACE) {
            return BAD;
        }
        int was = now.rooms.blinksOfBeat;
        now.rooms.blinksOfBeat = blinks;
        return was;
    }

    /** Promise 7. */
    public int time(int room, int beat) {
        if (!now.rooms.has(room) || beat < 0 || beat > BEATS) {
            return TIME_REFUSED + BAD;
        }
        if (!now.rooms.sings(room)) {
            return TIME_REFUSED + NONE;
        }
        beats.listen(now.rooms);
        beats.singTo(now.rooms, beat);
        return beats.timeOf(room);
    }

    /** Promise 8. */
    public int paceAt(int beat) {
        if (beat < 1 || beat > BEATS) {
            return BAD;
        }
        if (now.rooms.singers() == 0) {
            return NONE;
        }
        beats.listen(now.rooms);
        beats.singTo(now.rooms, beat);
        return beats.meanPace(now.rooms);
    }

    /** Promise 9. */
    public int slows(int beat, int v) {
        if (beat < 1 || beat > BEATS || v < 0 || v > MOST_SLOW) {
            return BAD;
        }
        if (now.rooms.singers() == 0) {
            return NONE;
        }
        beats.listen(now.rooms);
        // A longer wire may also quicken a late beat, so no delay can be left out.
        for (int blinks = 1; blinks <= MOST_BLINKS; blinks++) {
            beats.stretchWires(now.rooms, blinks);
            beats.singTo(now.rooms, beat);
            if (beats.meanPace(now.rooms) > v) {
                return blinks;
            }
        }
        return NONE;
    }

    /** Promise 10. */
    public int apart(int beat) {
        if (beat < 0 || beat > BEATS) {
            return BAD;
        }
        if (now.rooms.singers() == 0) {
            return NONE;
        }
        beats.listen(now.rooms);
        beats.singTo(now.rooms, beat);
        return beats.spread(now.rooms);
    }

    /** Promise 11. */
    public int count(int what) {
        switch (what) {
            case 0:
                return now.rooms.number;
            case 1:
                return Integer.bitCount(now.rooms.singers());
            case 2:
                return now.rooms.wiresInAll();
            case 3:
                return now.text.length;
            case 4:
                return now.text.breaths();
            case 5:
                return now.losses.number;
            default:
                return BAD;
        }
    }

    // ---- 2 hold, together

    /** Promise 12. */
    public int hold(int room, int what) {
        if (!now.rooms.has(room) || what < 0 || what > 1) {
            return BAD;
        }
        int singers = now.rooms.singers() & ~(1 << room);
        if (now.rooms.isCut(room) || !now.rooms.reachedByAll(room, singers)) {
            return NONE;
        }
        int held = now.rooms.longestWire(room, singers);
        return what == 0 ? held : now.rooms.costOfHolding(room, singers, held);
    }

    /** Promise 13. */
    public int together(int ears, int what) {
        if (ears == 0 || (ears & ~now.rooms.all()) != 0) {
            return BAD;
        }
        if (what == ROOMS) {
            return listeners.firstFailing(now.rooms, ears);
        }
        if (!now.rooms.has(what)) {
            return BAD;
        }
        if (!now.rooms.sings(what) || (ears >> what & 1) != 0) {
            return NOT;
        }
        return listeners.firstFailing(now.rooms, ears) == NONE ? listeners.leadOf(what) : NONE;
    }

    // ---- 3 pieces

    /** Promise 14. */
    public int type(long w, int n) {
        if (n < 1 || n > 8 || !Tape.canStand(w, n)) {
            return BAD;
        }
        return tape.length + n > TAPE_BYTES ? FULL : tape.append(w, n);
    }

    /** Promise 15. */
    public int piece() {
        int answer = tape.read();
        if (answer > 0) {
            now.text.take(tape.draft);
        }
        tape.length = 0;
        return answer;
    }

    /** Promise 16. */
    public int sound(int beat) {
        return beat < 0 || beat >= now.text.length ? BAD : now.text.sounds[beat];
    }

    /** Promise 17. */
    public int fit(int bits) {
        if (bits < 0 || bits > FITS) {
            return BAD;
        }
        int was = now.fitting;
        now.fitting = bits;
        return was;
    }

    /** Promise 18. */
    public int clashes(int d) {
        return d < 1 || d >= now.text.length ? BAD : now.text.clashesAt(d, now.fitting);
    }

    /** Promise 19. */
    public int canon(int i) {
        if (i < 0) {
            return BAD;
        }
        int found = 0;
        for (int d = 1; d < now.text.length; d++) {
            if (now.text.clashesAt(d, now.fitting) == 0) {
                if (found == i) {
                    return d;
                }
                found++;
            }
        }
        return NONE;
    }

    /** Promise 20. */
    public int sea(int d, int blinks) {
        if (d < 1 || d > SEA_BEATS || blinks < 1 || blinks > SEA_BLINKS) {
            return BAD;
        }
        return blinks % d != 0 || blinks / d > MOST_PACE ? NONE : blinks / d;
    }

    // ---- 4 stops

    /** Promise 21. */
    public int lose(int round, int from, int to, boolean is) {
        if (round < 1 || round > ROUNDS || !now.rooms.hasTwo(from, to)) {
            return BAD;
        }
        return now.rooms.loseWord(round, from, to, is);
    }

    /** Promise 22. */
    public int goes(int room, int n) {
        if (!now.rooms.has(room) || n < 0 || n > ROUNDS) {
            return BAD;
        }
        int needed = now.rooms.uncut();
        words.tellFor(now.rooms, n);
        if (now.rooms.isCut(room) || (needed & ~words.knownTo(room)) != 0) {
            return NONE;
        }
        return now.text.behindLastBreath(now.rooms.leastBeat(needed));
    }

    /** Promise 23. */
    public int knows(int room, int n) {
        if (!now.rooms.has(room) || n < 0 || n > ROUNDS) {
            return BAD;
        }
        words.tellFor(now.rooms, n);
        return words.knownTo(room);
    }

    // ---- 5 losses, nets

    /** Promise 24. */
    public int loss(long bits) {
        if ((bits & ~LOSS_BITS) != 0) {
            return BAD;
        }
        return now.losses.number == LOSS_ROWS ? FULL : now.losses.add(bits);
    }

    /** Promise 25. */
    public int lost(int row, int g) {
        if (row < 0 || row >= now.losses.number || g < 1 || g > MOST_GROUP) {
            return BAD;
        }
        return now.losses.lostOf(row, g);
    }

    /** Promise 26. */
    public int group() {
        for (int g = MOST_GROUP; g >= 1; g--) {
            if (now.losses.losesNothing(g)) {
                return g;
            }
        }
        return NONE;
    }

    /** Promise 27. */
    public int clear() {
        int had = now.losses.number;
        now.losses.number = 0;
        return had;
    }

    /** Promise 28. */
    public int most(int n) {
        if (n < 1 || n > MOST_PAIRS) {
            return BAD;
        }
        int was = now.rooms.mostPairs;
        now.rooms.mostPairs = n;
        return was;
    }

    /** Promise 29. */
    public int net() {
        int joined = Integer.bitCount(now.rooms.uncut());
        return joined < 2 || joined > NET_ROOMS ? NOT : nets.leastWait(now.rooms);
    }

    // ---- 6 images, sheets

    /** Promise 30. */
    public int image(int n) {
        if (n < 0 || n >= IMAGES) {
            return BAD;
        }
        if (images[n] == null) {
            images[n] = new Choir();
        }
        images[n].take(now);
        return 1;
    }

    /** Promise 31. */
    public int restore(int n) {
        if (n < 0 || n >= IMAGES) {
            return BAD;
        }
        if (images[n] == null) {
            return NONE;
        }
        now.take(images[n]);
        return 1;
    }

    /** Promise 32. */
    public int sheet(int sheet, int lane, int n) {
        if (!isSheet(sheet) || !isLane(lane) || n > ITEMS) {
            return BAD;
        }
        return n < 0 ? SIZE : sheets[sheet].renew(lane, n);
    }

    /** Promise 33. */
    public int drop(int sheet) {
        if (!isSheet(sheet)) {
            return BAD;
        }
        return sheets[sheet].lane == NOTHING ? NULL : sheets[sheet].empty();
    }

    /** Promise 34. */
    public int item(int sheet, int lane, int i, int v) {
        if (!isSheet(sheet) || !isLane(lane)) {
            return BAD;
        }
        int refusal = sheets[sheet].refusal(lane);
        if (refusal != 0) {
            return refusal;
        }
        return sheets[sheet].holds(i, 1) ? sheets[sheet].put(i, v) : INDEX;
    }

    /** Promise 35. */
    public int copy(int from, int i, int to, int j, int n) {
        if (!isSheet(from) || !isSheet(to)) {
            return BAD;
        }
        Sheet source = sheets[from];
        if (source.lane == NOTHING) {
            return NULL;
        }
        int refusal = sheets[to].refusal(source.lane);
        if (refusal != 0) {
            return refusal;
        }
        if (!source.holds(i, n) || !sheets[to].holds(j, n)) {
            return INDEX;
        }
        System.arraycopy(source.items, i, sheets[to].items, j, n);
        return n;
    }

    private static boolean isSheet(int sheet) {
        return sheet >= 0 && sheet < SHEETS;
    }

    private static boolean isLane(int lane) {
        return lane >= BYTES && lane <= INTS;
    }

    /** All that an IMAGE keeps. */
    private static final class Choir {
        final Rooms rooms = new Rooms();
        final Piece text = new Piece();
        final Losses losses = new Losses();
        int fitting = FIRST_FIT;

        void take(Choir other) {
            rooms.take(other.rooms);
            text.take(other.text);
            losses.take(other.losses);
            fitting = other.fitting;
        }
    }

    /** The ROOMS, the WIRES between them and the WORDS that are LOST on these. */
    private static final class Rooms {
        int number;
        int blinksOfBeat = 500;
        int mostPairs = MOST_PAIRS;
        private final int[] values = new int[ROOMS * VALUES];
        private final int[] blinks = new int[ROOMS * ROOMS];
        /** By round and teller, the rooms that do not get the word, as bits. */
        private final int[] lostWords = new int[ROUNDS * ROOMS];

        void take(Rooms other) {
            number = other.number;
            blinksOfBeat = other.blinksOfBeat;
            mostPairs = other.mostPairs;
            System.arraycopy(other.values, 0, values, 0, values.length);
            System.arraycopy(other.blinks, 0, blinks, 0, blinks.length);
            System.arraycopy(other.lostWords, 0, lostWords, 0, lostWords.length);
        }

        int add(int kind) {
            int room = number;
            number++;
            System.arraycopy(FIRST_VALUES, 0, values, room * VALUES, VALUES);
            values[room * VALUES + KIND] = kind;
            return room;
        }

        boolean has(int room) {
            return room >= 0 && room < number;
        }

        boolean hasTwo(int one, int other) {
            return has(one) && has(other) && one != other;
        }

        int value(int room, int what) {
            return values[room * VALUES + what];
        }

        int change(int room, int what, int v) {
            int was = value(room, what);
            values[room * VALUES + what] = v;
            return was;
        }

        boolean sings(int room) {
            return value(room, KIND) < SILENT;
        }

        boolean isCut(int room) {
            return value(room, KIND) == CUT;
        }

        int all() {
            return (1 << number) - 1;
        }

        int singers() {
            int bits = 0;
            for (int room = 0; room < number; room++) {
                bits |= sings(room) ? 1 << room : 0;
            }
            return bits;
        }

        int uncut() {
            int bits = 0;
            for (int room = 0; room < number; room++) {
                bits |= isCut(room) ? 0 : 1 << room;
            }
            return bits;
        }

        int between(int from, int to) {
            return blinks[from * ROOMS + to];
        }

        int lay(int from, int to, int v) {
            int was = between(from, to);
            blinks[from * ROOMS + to] = v;
            return was;
        }

        boolean canLayAll(int from, Sheet row, int i) {
            for (int to = 0; to < number; to++) {
                int v = row.items[i + to];
                if (v < 0 || v > MOST_BLINKS || to == from && v != 0) {
                    return false;
                }
            }
            return true;
        }

        int layAll(int from, Sheet row, int i) {
            int there = 0;
            for (int to = 0; to < number; to++) {
                lay(from, to, row.items[i + to]);
                there += between(from, to) > 0 ? 1 : 0;
            }
            return there;
        }

        int wiresInAll() {
            int there = 0;
            for (int b : blinks) {
                there += b > 0 ? 1 : 0;
            }
            return there;
        }

        boolean reachedByAll(int room, int from) {
            for (int other = 0; other < number; other++) {
                if ((from >> other & 1) != 0 && between(other, room) == 0) {
                    return false;
                }
            }
            return true;
        }

        int longestWire(int room, int from) {
            int longest = 0;
            for (int other = 0; other < number; other++) {
                if ((from >> other & 1) != 0) {
                    longest = Math.max(longest, between(other, room));
                }
            }
            return longest;
        }

        int shortestWire(int room, int from) {
            int shortest = MOST_BLINKS;
            for (int other = 0; other < number; other++) {
                if ((from >> other & 1) != 0) {
                    shortest = Math.min(shortest, between(other, room));
                }
            }
            return shortest;
        }

        int costOfHolding(int room, int from, int held) {
            int cost = 0;
            for (int other = 0; other < number; other++) {
                if ((from >> other & 1) != 0) {
                    cost += held - between(other, room);
                }
            }
            return cost;
        }

        int leastBeat(int of) {
            int least = MOST_VALUES[AT_BEAT];
            for (int room = 0; room < number; room++) {
                if ((of >> room & 1) != 0) {
                    least = Math.min(least, value(room, AT_BEAT));
                }
            }
            return least;
        }

        boolean losesWord(int round, int from, int to) {
            return (lostWords[(round - 1) * ROOMS + from] >> to & 1) != 0;
        }

        int loseWord(int round, int from, int to, boolean is) {
            int was = losesWord(round, from, to) ? 1 : 0;
            int at = (round - 1) * ROOMS + from;
            lostWords[at] = is ? lostWords[at] | 1 << to : lostWords[at] & ~(1 << to);
            return was;
        }
    }

    /** The TIMES, worked out BEAT by BEAT. */
    private static final class Beats {
        private int[] times = new int[ROOMS];
        private int[] before = new int[ROOMS];
        /** By hearer, the rooms that it hears, the first heardBy[hearer] of eight. */
        private final int[] heard = new int[ROOMS * ROOMS];
        private final int[] heardBy = new int[ROOMS];
        private final int[] wireSums = new int[ROOMS];

        void listen(Rooms rooms) {
            for (int to = 0; to < rooms.number; to++) {
                heardBy[to] = 0;
                wireSums[to] = 0;
                for (int from = 0; from < rooms.number; from++) {
                    if (rooms.sings(from) && rooms.between(from, to) > 0) {
                        heard[to * ROOMS + heardBy[to]] = from;
                        heardBy[to]++;
                        wireSums[to] += rooms.between(from, to);
                    }
                }
            }
        }

        void stretchWires(Rooms rooms, int blinks) {
            for (int to = 0; to < rooms.number; to++) {
                wireSums[to] = heardBy[to] * blinks;
            }
        }

        void singTo(Rooms rooms, int beat) {
            for (int room = 0; room < rooms.number; room++) {
                times[room] = rooms.value(room, KIND) == LEADER ? -rooms.value(room, EARLY) : 0;
            }
            for (int k = 1; k <= beat; k++) {
                int[] spare = before;
                before = times;
                times = spare;
                for (int room = 0; room < rooms.number; room++) {
                    times[room] = rooms.sings(room) ? timeAt(rooms, room, k) : 0;
                }
            }
        }

        private int timeAt(Rooms rooms, int room, int k) {
            int kind = rooms.value(room, KIND);
            if (kind == AHEAD) {
                return k * rooms.blinksOfBeat;
            }
            if (kind == LEADER) {
                return k * rooms.blinksOfBeat - rooms.value(room, EARLY);
            }
            int own = before[room];
            int lag = meanLag(room, kind == GUESSING ? rooms.value(room, GUESS) : 0);
            int pulled = rooms.value(room, PULL) * lag / 100;
            return Math.max(own + 1, own + rooms.blinksOfBeat + rooms.value(room, LATE) + pulled);
        }

        /** M: how much later than its own the room hears the others' beat ahead. */
        private int meanLag(int room, int guess) {
            int n = heardBy[room];
            if (n == 0) {
                return 0;
            }
            int sum = wireSums[room] - n * (before[room] + guess);
            for (int i = 0; i < n; i++) {
                sum += before[heard[room * ROOMS + i]];
            }
            return sum / n;
        }

        int timeOf(int room) {
            return times[room];
        }

        int meanPace(Rooms rooms) {
            int sum = 0;
            int n = 0;
            for (int room = 0; room < rooms.number; room++) {
                if (rooms.sings(room)) {
                    sum += times[room] - before[room];
                    n++;
                }
            }
            return n == 0 ? 0 : sum / n;
        }

        int spread(Rooms rooms) {
            boolean any = false;
            int least = 0;
            int greatest = 0;
            for (int room = 0; room < rooms.number; room++) {
                if (rooms.sings(room)) {
                    least = any ? Math.min(least, times[room]) : times[room];
                    greatest = any ? Math.max(greatest, times[room]) : times[room];
                    any = true;
                }
            }
            return greatest - least;
        }
    }

    /** How early all sing that told EARS hear them at once. */
    private static final class Ears {
        private final int[] leads = new int[ROOMS];

        /** The first EAR for which it can't be, or NONE; without such the leads stand. */
        int firstFailing(Rooms rooms, int ears) {
            int singers = rooms.singers() & ~ears;
            boolean led = false;
            for (int ear = 0; ear < rooms.number && singers != 0; ear++) {
                if ((ears >> ear & 1) == 0) {
                    continue;
                }
                if (rooms.isCut(ear) || !rooms.reachedByAll(ear, singers)) {
                    return ear;
                }
                // The first EAR alone says all leads; those behind it can only agree or not.
                if (!led) {
                    lead(rooms, ear, singers);
                    led = true;
                } else if (!agrees(rooms, ear, singers)) {
                    return ear;
                }
            }
            return NONE;
        }

        private void lead(Rooms rooms, int ear, int singers) {
            int shortest = rooms.shortestWire(ear, singers);
            for (int room = 0; room < rooms.number; room++) {
                leads[room] = rooms.between(room, ear) - shortest;
            }
        }

        private boolean agrees(Rooms rooms, int ear, int singers) {
            int shortest = rooms.shortestWire(ear, singers);
            for (int room = 0; room < rooms.number; room++) {
                if ((singers >> room & 1) != 0 && leads[room] != rooms.between(room, ear) - shortest) {
                    return false;
                }
            }
            return true;
        }

        int leadOf(int room) {
            return leads[room];
        }
    }

    /** What is typed, and its reading as the TEXT of a PIECE. */
    private static final class Tape {
        int length;
        /** What was read last: the PIECE itself must stay if the TEXT has a FAULT. */
        final Piece draft = new Piece();
        private final byte[] bytes = new byte[TAPE_BYTES];
        private int place;

        static boolean canStand(long w, int n) {
            for (int i = 0; i < n; i++) {
                int b = (int) (w >> 8 * i) & 255;
                if (b < ' ' || b > '~') {
                    return false;
                }
            }
            return true;
        }

        int append(long w, int n) {
            for (int i = n - 1; i >= 0; i--) {
                bytes[length] = (byte) (w >> 8 * i);
                length++;
            }
            return length;
        }

        /** The BEATS of the draft, or the FAULT. */
        int read() {
            draft.length = 0;
            place = 0;
            for (int sounds = 0; sounds <= SOUNDS; sounds++) {
                if (sounds > 0 && peek() == END) {
                    return draft.length;
                }
                if (!readSound(sounds)) {
                    break;
                }
            }
            return FAULT - place;
        }

        /** False with the place at the byte that can't stand there. */
        private boolean readSound(int soundsAhead) {
            int letter = peek();
            if (letter != '-' && (letter < 'a' || letter > 'g')) {
                return false;
            }
            int letterPlace = place;
            place++;
            int beats = 1;
            int digit = peek();
            if (digit >= '1' && digit <= '9') {
                beats = digit - '0';
                place++;
            }
            if (soundsAhead == SOUNDS || draft.length + beats > PIECE_BEATS) {
                place = letterPlace;
                return false;
            }
            boolean breath = peek() == '.';
            if (breath) {
                place++;
            }
            draft.append(letter == '-' ? 0 : letter - 'a' + 1, beats, breath);
            return true;
        }

        /** The byte behind blanks, which is where the place is then. */
        private int peek() {
            while (place < length && bytes[place] == ' ') {
                place++;
            }
            return place < length ? bytes[place] : END;
        }
    }

    /** The PIECE: by BEAT 1 .. 7 for a letter, 0 for a rest, BREATH more with a BREATH behind. */
    private static final class Piece {
        int length;
        final int[] sounds = new int[PIECE_BEATS];

        void take(Piece other) {
            length = other.length;
            System.arraycopy(other.sounds, 0, sounds, 0, sounds.length);
        }

        void append(int letter, int beats, boolean breath) {
            for (int i = 0; i < beats; i++) {
                sounds[length] = letter + (breath && i == beats - 1 ? BREATH : 0);
                length++;
            }
        }

        int breaths() {
            int n = 0;
            for (int beat = 0; beat < length; beat++) {
                n += sounds[beat] >= BREATH ? 1 : 0;
            }
            return n;
        }

        /** The last beat behind a BREATH that is no later than the told one, or 0. */
        int behindLastBreath(int beat) {
            for (int b = Math.min(beat, length); b > 0; b--) {
                if (sounds[b - 1] >= BREATH) {
                    return b;
                }
            }
            return 0;
        }

        int clashesAt(int d, int fitting) {
            int n = 0;
            for (int beat = d; beat < length; beat++) {
                int letter = sounds[beat] % BREATH;
                int ahead = sounds[beat - d] % BREATH;
                if (letter != 0 && ahead != 0 && (fitting >> Math.abs(letter - ahead) & 1) == 0) {
                    n++;
                }
            }
            return n;
        }
    }

    /** Who knows of whom behind so many ROUNDS. */
    private static final class Words {
        private int[] known = new int[ROOMS];
        private int[] before = new int[ROOMS];

        void tellFor(Rooms rooms, int rounds) {
            for (int room = 0; room < rooms.number; room++) {
                known[room] = 1 << room;
            }
            for (int round = 1; round <= rounds; round++) {
                int[] spare = before;
                before = known;
                known = spare;
                for (int to = 0; to < rooms.number; to++) {
                    known[to] = before[to] | toldTo(rooms, to, round);
                }
            }
        }

        private int toldTo(Rooms rooms, int to, int round) {
            int told = 0;
            for (int from = 0; from < rooms.number && !rooms.isCut(to); from++) {
                boolean comes = rooms.between(from, to) > 0 && !rooms.losesWord(round, from, to);
                if (comes && !rooms.isCut(from)) {
                    told |= before[from];
                }
            }
            return told;
        }

        int knownTo(int room) {
            return known[room];
        }
    }

    /** The LOSS rows. */
    private static final class Losses {
        int number;
        private final long[] rows = new long[LOSS_ROWS];

        void take(Losses other) {
            number = other.number;
            System.arraycopy(other.rows, 0, rows, 0, rows.length);
        }

        int add(long bits) {
            rows[number] = bits;
            number++;
            return number - 1;
        }

        int lostOf(int row, int g) {
            int lostBits = 0;
            for (int q = 0; q < SENT && q * g < SENT; q++) {
                int end = Math.min(SENT, q * g + g);
                int ofGroup = (1 << end) - (1 << q * g);
                int gone = (int) rows[row] & ofGroup;
                boolean sumGone = (rows[row] >> SENT + q & 1) != 0;
                if (sumGone || Integer.bitCount(gone) > 1) {
                    lostBits |= gone;
                }
            }
            return lostBits;
        }

        boolean losesNothing(int g) {
            for (int row = 0; row < number; row++) {
                if (lostOf(row, g) != 0) {
                    return false;
                }
            }
            return true;
        }
    }

    /**
     * THE BEST NET, by looking at every tree. A tree of n rooms is a row of n - 2 of them (Pruefer's
     * code: each time the least leaf goes, its neighbour is written down), and so a number below
     * n to the n - 2.
     */
    private static final class Nets {
        private int size;
        private final int[] members = new int[NET_ROOMS];
        private final int[] code = new int[NET_ROOMS];
        private final int[] pairs = new int[NET_ROOMS];
        private final int[] leaves = new int[NET_ROOMS];
        private final int[] parents = new int[NET_ROOMS];
        private final int[] ways = new int[NET_ROOMS * NET_ROOMS];

        /** Of 2 to 6 rooms that are not CUT. */
        int leastWait(Rooms rooms) {
            gather(rooms);
            int trees = 1;
            for (int i = 0; i < size - 2; i++) {
                trees *= size;
            }
            int least = NONE;
            for (int tree = 0; tree < trees; tree++) {
                if (decode(rooms, tree)) {
                    int wait = greatestWait(rooms);
                    least = least == NONE ? wait : Math.min(least, wait);
                }
            }
            return least;
        }

        private void gather(Rooms rooms) {
            size = 0;
            for (int room = 0; room < rooms.number && size < NET_ROOMS; room++) {
                if (!rooms.isCut(room)) {
                    members[size] = room;
                    size++;
                }
            }
        }

        /** The tree's pairs as leaves with parents; false, if the rooms can't be joined so. */
        private boolean decode(Rooms rooms, int tree) {
            Arrays.fill(pairs, 1);
            int rest = tree;
            for (int i = 0; i < size - 2; i++) {
                code[i] = rest % size;
                rest /= size;
                pairs[code[i]]++;
            }
            for (int i = 0; i < size; i++) {
                if (pairs[i] > rooms.mostPairs) {
                    return false;
                }
            }
            for (int i = 0; i < size - 1; i++) {
                leaves[i] = takeLeaf();
                parents[i] = i < size - 2 ? code[i] : takeLeaf();
                pairs[parents[i]]--;
                if (blinksOf(rooms, leaves[i], parents[i]) == 0 || blinksOf(rooms, parents[i], leaves[i]) == 0) {
                    return false;
                }
            }
            return true;
        }

        private int takeLeaf() {
            for (int i = 0; i < size; i++) {
                if (pairs[i] == 1) {
                    pairs[i] = 0;
                    return i;
                }
            }
            return 0;
        }

        private int blinksOf(Rooms rooms, int from, int to) {
            return rooms.between(members[from], members[to]);
        }

        /** The last pair first, each leaf comes to a parent that is there already. */
        private int greatestWait(Rooms rooms) {
            int greatest = 0;
            int there = 1 << parents[size - 2];
            for (int i = size - 2; i >= 0; i--) {
                greatest = Math.max(greatest, join(rooms, leaves[i], parents[i], there));
                there |= 1 << leaves[i];
            }
            return greatest;
        }

        private int join(Rooms rooms, int leaf, int parent, int there) {
            int out = blinksOf(rooms, leaf, parent);
            int back = blinksOf(rooms, parent, leaf);
            int greatest = 0;
            for (int other = 0; other < size; other++) {
                if ((there >> other & 1) != 0) {
                    boolean next = other == parent;
                    ways[leaf * NET_ROOMS + other] = out + (next ? 0 : ways[parent * NET_ROOMS + other]);
                    ways[other * NET_ROOMS + leaf] = back + (next ? 0 : ways[other * NET_ROOMS + parent]);
                    greatest = Math.max(greatest, ways[leaf * NET_ROOMS + other]);
                    greatest = Math.max(greatest, ways[other * NET_ROOMS + leaf]);
                }
            }
            return greatest;
        }
    }

    /** A SHEET: one row is kept for it and used for every LANE. */
    private static final class Sheet {
        int lane = NOTHING;
        int length;
        final int[] items = new int[ITEMS];

        /** NULL or CAST, if it can't be taken as a row of the LANE; else 0. */
        int refusal(int wanted) {
            if (lane == NOTHING) {
                return NULL;
            }
            return lane == wanted ? 0 : CAST;
        }

        boolean holds(int i, int n) {
            return i >= 0 && n >= 0 && i <= length - n;
        }

        int renew(int newLane, int n) {
            lane = newLane;
            length = n;
            Arrays.fill(items, 0);
            return n;
        }

        int empty() {
            lane = NOTHING;
            return length;
        }

        int put(int i, int v) {
            items[i] = lane == BYTES ? (byte) v : lane == SHORTS ? (short) v : v;
            return 1;
        }
    }
}
