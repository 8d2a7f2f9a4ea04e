import java.util.ArrayList;
import java.util.HashSet;
import java.util.List;
import java.util.Set;
import java.util.TreeSet;
import java.util.regex.Matcher;
import java.util.regex.Pattern;

/**
 * The document once more, told as plainly and as unlike the class as can be: rows of the machine's
 * own kind, what the machine throws, sets, all graphs instead of all trees. For tests alone.
 */
final class Model {
    private static final int BAD = -1, NOT = -2, FULL = -3, NONE = -4, NULL = -11, CAST = -12, INDEX = -13, SIZE = -14;
    private static final Pattern SOUND = Pattern.compile(" *([a-g-])( *[1-9])?( *\\.)?");

    private static final class Room {
        int[] values = {0, 10, 50, 0, 0, 0};

        boolean sings() {
            return values[0] <= 3;
        }

        boolean cut() {
            return values[0] == 5;
        }
    }

    private static final class State {
        List<Room> rooms = new ArrayList<>();
        int[][] wires = new int[8][8];
        int pace = 500;
        String letters = "";
        Set<Integer> breaths = new TreeSet<>();
        int fit = 21;
        Set<String> lostWords = new HashSet<>();
        List<Long> losses = new ArrayList<>();
        int most = 7;

        State copied() {
            State s = new State();
            for (Room r : rooms) {
                Room c = new Room();
                c.values = r.values.clone();
                s.rooms.add(c);
            }
            for (int i = 0; i < 8; i++) {
                s.wires[i] = wires[i].clone();
            }
            s.pace = pace;
            s.letters = letters;
            s.breaths = new TreeSet<>(breaths);
            s.fit = fit;
            s.lostWords = new HashSet<>(lostWords);
            s.losses = new ArrayList<>(losses);
            s.most = most;
            return s;
        }
    }

    private State s = new State();
    private final State[] images = new State[2];
    private final Object[] sheets = new Object[4];
    private String tape = "";

    private boolean no(int v, int least, int most) {
        return v < least || v > most;
    }

    private boolean noRoom(int room) {
        return no(room, 0, s.rooms.size() - 1);
    }

    int room(int kind) {
        if (no(kind, 0, 5)) return BAD;
        if (s.rooms.size() == 8) return FULL;
        Room r = new Room();
        r.values[0] = kind;
        s.rooms.add(r);
        return s.rooms.size() - 1;
    }

    int set(int room, int what, int v) {
        int[] greatest = {5, 99, 100, 999, 400, 63};
        if (noRoom(room) || no(what, 0, 5) || no(v, 0, greatest[what])) return BAD;
        int was = s.rooms.get(room).values[what];
        s.rooms.get(room).values[what] = v;
        return was;
    }

    int wire(int from, int to, int blinks) {
        if (noRoom(from) || noRoom(to) || from == to || no(blinks, 0, 400)) return BAD;
        int was = s.wires[from][to];
        s.wires[from][to] = blinks;
        return was;
    }

    private static int take(Object row, int lane, int i) {
        return lane == 0 ? ((byte[]) row)[i] : lane == 1 ? ((short[]) row)[i] : ((int[]) row)[i];
    }

    int wires(int from, int sheet, int lane, int i) {
        if (noRoom(from) || no(sheet, 0, 3) || no(lane, 0, 2)) return BAD;
        int[] got = new int[s.rooms.size()];
        try {
            for (int k = 0; k < got.length; k++) {
                got[k] = take(sheets[sheet], lane, i + k);
            }
        } catch (NullPointerException e) {
            return NULL;
        } catch (ClassCastException e) {
            return CAST;
        } catch (ArrayIndexOutOfBoundsException e) {
            return INDEX;
        }
        int n = 0;
        for (int k = 0; k < got.length; k++) {
            if (no(got[k], 0, k == from ? 0 : 400)) return NOT;
            n += got[k] == 0 ? 0 : 1;
        }
        System.arraycopy(got, 0, s.wires[from], 0, got.length);
        return n;
    }

    int pace(int blinks) {
        if (no(blinks, 1, 2000)) return BAD;
        int was = s.pace;
        s.pace = blinks;
        return was;
    }

    /** All times at beats 0 .. 40 by room, null for those who do not sing. */
    private Integer[][] times(int[][] wires) {
        int n = s.rooms.size();
        Integer[][] t = new Integer[n][];
        for (int r = 0; r < n; r++) {
            if (s.rooms.get(r).sings()) {
                t[r] = new Integer[41];
                t[r][0] = s.rooms.get(r).values[0] == 2 ? -s.rooms.get(r).values[3] : 0;
            }
        }
        for (int k = 1; k <= 40; k++) {
            for (int r = 0; r < n; r++) {
                if (t[r] != null) t[r][k] = next(wires, t, r, k);
            }
        }
        return t;
    }

    private int next(int[][] wires, Integer[][] t, int r, int k) {
        int[] v = s.rooms.get(r).values;
        if (v[0] == 1) return k * s.pace;
        if (v[0] == 2) return k * s.pace - v[3];
        long sum = 0;
        int heard = 0;
        for (int o = 0; o < t.length; o++) {
            if (o != r && t[o] != null && wires[o][r] > 0) {
                heard++;
                sum += t[o][k - 1] + wires[o][r] - t[r][k - 1] - (v[0] == 3 ? v[4] : 0);
            }
        }
        long m = heard == 0 ? 0 : sum / heard;
        long then = t[r][k - 1] + s.pace + v[1] + v[2] * m / 100;
        return (int) (then <= t[r][k - 1] ? t[r][k - 1] + 1 : then);
    }

    int time(int room, int beat) {
        if (noRoom(room) || no(beat, 0, 40)) return -1000001;
        Integer[] of = times(s.wires)[room];
        return of == null ? -1000004 : of[beat];
    }

    private int paceBy(int[][] wires, int beat) {
        int sum = 0;
        int n = 0;
        for (Integer[] of : times(wires)) {
            if (of != null) {
                sum += of[beat] - of[beat - 1];
                n++;
            }
        }
        return n == 0 ? NONE : sum / n;
    }

    int paceAt(int beat) {
        return no(beat, 1, 40) ? BAD : paceBy(s.wires, beat);
    }

    int slows(int beat, int v) {
        if (no(beat, 1, 40) || no(v, 0, 99999)) return BAD;
        for (int d = 1; d <= 400; d++) {
            int[][] w = new int[8][8];
            for (int i = 0; i < 64; i++) {
                w[i / 8][i % 8] = s.wires[i / 8][i % 8] > 0 ? d : 0;
            }
            if (paceBy(w, beat) > v) return d;
        }
        return NONE;
    }

    int apart(int beat) {
        if (no(beat, 0, 40)) return BAD;
        TreeSet<Integer> all = new TreeSet<>();
        for (Integer[] of : times(s.wires)) {
            if (of != null) all.add(of[beat]);
        }
        return all.isEmpty() ? NONE : all.last() - all.first();
    }

    int count(int what) {
        int wires = 0;
        for (int i = 0; i < 64; i++) {
            wires += s.wires[i / 8][i % 8] > 0 ? 1 : 0;
        }
        int[] all = {s.rooms.size(), singing().size(), wires, s.letters.length(), s.breaths.size(), s.losses.size()};
        return no(what, 0, 5) ? BAD : all[what];
    }

    private Set<Integer> singing() {
        Set<Integer> all = new TreeSet<>();
        for (int r = 0; r < s.rooms.size(); r++) {
            if (s.rooms.get(r).sings()) all.add(r);
        }
        return all;
    }

    private List<Integer> notCut() {
        List<Integer> all = new ArrayList<>();
        for (int r = 0; r < s.rooms.size(); r++) {
            if (!s.rooms.get(r).cut()) all.add(r);
        }
        return all;
    }

    int hold(int room, int what) {
        if (noRoom(room) || no(what, 0, 1)) return BAD;
        if (s.rooms.get(room).cut()) return NONE;
        Set<Integer> others = singing();
        others.remove(room);
        List<Integer> took = new ArrayList<>();
        int hold = 0;
        for (int o : others) {
            if (s.wires[o][room] == 0) return NONE;
            took.add(s.wires[o][room]);
            hold = Math.max(hold, s.wires[o][room]);
        }
        int sum = 0;
        for (int t : took) {
            sum += hold - t;
        }
        return what == 0 ? hold : sum;
    }

    /** Whether all of these ears hear these singers at once, if each is some blinks ahead. */
    private boolean can(List<Integer> ears, Set<Integer> singers) {
        for (int e : ears) {
            for (int a : singers) {
                if (s.rooms.get(e).cut() || s.wires[a][e] == 0) return false;
                for (int b : singers) {
                    int first = ears.get(0);
                    if (s.wires[a][e] - s.wires[b][e] != s.wires[a][first] - s.wires[b][first]) return false;
                }
            }
        }
        return true;
    }

    int together(int ears, int what) {
        if (ears <= 0 || ears >= 1 << s.rooms.size() || no(what, 0, 8) || what < 8 && noRoom(what)) return BAD;
        Set<Integer> singers = singing();
        List<Integer> upTo = new ArrayList<>();
        for (int r = 0; r < s.rooms.size(); r++) {
            if ((ears & 1 << r) != 0) singers.remove(r);
        }
        if (what < 8 && !singers.contains(what)) return NOT;
        for (int r = 0; r < s.rooms.size(); r++) {
            if ((ears & 1 << r) != 0) {
                upTo.add(r);
                if (!can(upTo, singers)) return what == 8 ? r : NONE;
            }
        }
        if (what == 8) return NONE;
        int ahead = 0;
        for (int o : singers) {
            ahead = Math.max(ahead, s.wires[what][upTo.get(0)] - s.wires[o][upTo.get(0)]);
        }
        return ahead;
    }

    int type(long w, int n) {
        if (no(n, 1, 8)) return BAD;
        StringBuilder more = new StringBuilder();
        for (int i = 0; i < n; i++) {
            int b = (int) (w >>> 8 * i & 255);
            if (no(b, 32, 126)) return BAD;
            more.insert(0, (char) b);
        }
        if (tape.length() + n > 120) return FULL;
        tape += more;
        return tape.length();
    }

    int piece() {
        String text = tape;
        tape = "";
        StringBuilder letters = new StringBuilder();
        Set<Integer> breaths = new TreeSet<>();
        Matcher m = SOUND.matcher(text);
        int at = 0;
        int sounds = 0;
        while (m.find(at) && m.start() == at) {
            int beats = m.group(2) == null ? 1 : m.group(2).trim().charAt(0) - '0';
            sounds++;
            if (sounds > 40 || letters.length() + beats > 64) return -20 - m.start(1);
            letters.append(m.group(1).repeat(beats));
            if (m.group(3) != null) breaths.add(letters.length());
            at = m.end();
        }
        String rest = text.substring(at);
        if (!rest.isBlank() || sounds == 0) {
            return -20 - at - (rest.length() - rest.stripLeading().length());
        }
        s.letters = letters.toString();
        s.breaths = breaths;
        return letters.length();
    }

    int sound(int beat) {
        if (no(beat, 0, s.letters.length() - 1)) return BAD;
        return "-abcdefg".indexOf(s.letters.charAt(beat)) + (s.breaths.contains(beat + 1) ? 10 : 0);
    }

    int fit(int bits) {
        if (no(bits, 0, 127)) return BAD;
        int was = s.fit;
        s.fit = bits;
        return was;
    }

    int clashes(int d) {
        if (no(d, 1, s.letters.length() - 1)) return BAD;
        int n = 0;
        for (int i = 0; i + d < s.letters.length(); i++) {
            char a = s.letters.charAt(i);
            char b = s.letters.charAt(i + d);
            boolean both = a != '-' && b != '-';
            n += both && (s.fit & 1 << Math.abs(a - b)) == 0 ? 1 : 0;
        }
        return n;
    }

    int canon(int i) {
        if (i < 0) return BAD;
        List<Integer> all = new ArrayList<>();
        for (int d = 1; d < s.letters.length(); d++) {
            if (clashes(d) == 0) all.add(d);
        }
        return i < all.size() ? all.get(i) : NONE;
    }

    int sea(int d, int blinks) {
        if (no(d, 1, 63) || no(blinks, 1, 40000)) return BAD;
        for (int pace = 1; pace <= 2000; pace++) {
            if (pace * d == blinks) return pace;
        }
        return NONE;
    }

    int lose(int round, int from, int to, boolean is) {
        if (no(round, 1, 7) || noRoom(from) || noRoom(to) || from == to) return BAD;
        String word = round + " " + from + " " + to;
        boolean was = is ? !s.lostWords.add(word) : s.lostWords.remove(word);
        return was ? 1 : 0;
    }

    /** Who has heard of a room behind so many rounds. */
    private Set<Integer> hearers(int of, int rounds) {
        Set<Integer> have = new TreeSet<>(Set.of(of));
        for (int round = 1; round <= rounds; round++) {
            Set<Integer> more = new TreeSet<>(have);
            for (int from : have) {
                for (int to : notCut()) {
                    boolean word = s.wires[from][to] > 0 && !s.lostWords.contains(round + " " + from + " " + to);
                    if (word && !s.rooms.get(from).cut()) more.add(to);
                }
            }
            have = more;
        }
        return have;
    }

    int goes(int room, int n) {
        if (noRoom(room) || no(n, 0, 7)) return BAD;
        if (s.rooms.get(room).cut()) return NONE;
        int least = 63;
        for (int r : notCut()) {
            if (!hearers(r, n).contains(room)) return NONE;
            least = Math.min(least, s.rooms.get(r).values[5]);
        }
        int from = 0;
        for (int b : s.breaths) {
            if (b <= least) from = b;
        }
        return from;
    }

    int knows(int room, int n) {
        if (noRoom(room) || no(n, 0, 7)) return BAD;
        int bits = 0;
        for (int r = 0; r < s.rooms.size(); r++) {
            if (hearers(r, n).contains(room)) bits |= 1 << r;
        }
        return bits;
    }

    int loss(long bits) {
        if (bits < 0 || bits >= 1L << 48) return BAD;
        if (s.losses.size() == 8) return FULL;
        s.losses.add(bits);
        return s.losses.size() - 1;
    }

    int lost(int row, int g) {
        if (no(row, 0, s.losses.size() - 1) || no(g, 1, 12)) return BAD;
        long gone = s.losses.get(row);
        int bits = 0;
        for (int p = 0; p < 24; p++) {
            if ((gone >> p & 1) == 0) continue;
            int others = (int) (gone >> 24 + p / g & 1);
            for (int q = 0; q < 24; q++) {
                others += q != p && q / g == p / g && (gone >> q & 1) == 1 ? 1 : 0;
            }
            bits |= others > 0 ? 1 << p : 0;
        }
        return bits;
    }

    int group() {
        int best = NONE;
        for (int g = 1; g <= 12; g++) {
            boolean all = true;
            for (int row = 0; row < s.losses.size(); row++) {
                all &= lost(row, g) == 0;
            }
            best = all ? g : best;
        }
        return best;
    }

    int clear() {
        int n = s.losses.size();
        s.losses.clear();
        return n;
    }

    int most(int n) {
        if (no(n, 1, 7)) return BAD;
        int was = s.most;
        s.most = n;
        return was;
    }

    int net() {
        List<Integer> rooms = notCut();
        int n = rooms.size();
        if (no(n, 2, 6)) return NOT;
        List<int[]> pairs = new ArrayList<>();
        for (int a : rooms) {
            for (int b : rooms) {
                if (a < b && s.wires[a][b] > 0 && s.wires[b][a] > 0) pairs.add(new int[] {a, b});
            }
        }
        int best = NONE;
        for (int chosen = 0; chosen < 1 << pairs.size(); chosen++) {
            if (Integer.bitCount(chosen) == n - 1) {
                int wait = worst(rooms, pairs, chosen);
                best = wait == NONE ? best : best == NONE ? wait : Math.min(best, wait);
            }
        }
        return best;
    }

    private int worst(List<Integer> rooms, List<int[]> pairs, int chosen) {
        int far = 1000000;
        int[][] way = new int[8][8];
        int[] in = new int[8];
        for (int[] row : way) {
            java.util.Arrays.fill(row, far);
        }
        for (int i = 0; i < pairs.size(); i++) {
            if ((chosen & 1 << i) != 0) {
                int a = pairs.get(i)[0];
                int b = pairs.get(i)[1];
                way[a][b] = s.wires[a][b];
                way[b][a] = s.wires[b][a];
                in[a]++;
                in[b]++;
            }
        }
        for (int via : rooms) {
            for (int a : rooms) {
                for (int b : rooms) {
                    way[a][b] = Math.min(way[a][b], way[a][via] + way[via][b]);
                }
            }
        }
        int worst = 0;
        for (int a : rooms) {
            if (in[a] > s.most) return NONE;
            for (int b : rooms) {
                if (a != b && way[a][b] >= far) return NONE;
                worst = a == b ? worst : Math.max(worst, way[a][b]);
            }
        }
        return worst;
    }

    int image(int n) {
        if (no(n, 0, 1)) return BAD;
        images[n] = s.copied();
        return 1;
    }

    int restore(int n) {
        if (no(n, 0, 1)) return BAD;
        if (images[n] == null) return NONE;
        s = images[n].copied();
        return 1;
    }

    int sheet(int sheet, int lane, int n) {
        if (no(sheet, 0, 3) || no(lane, 0, 2) || n > 40) return BAD;
        try {
            sheets[sheet] = lane == 0 ? new byte[n] : lane == 1 ? new short[n] : new int[n];
        } catch (NegativeArraySizeException e) {
            return SIZE;
        }
        return n;
    }

    int drop(int sheet) {
        if (no(sheet, 0, 3)) return BAD;
        if (sheets[sheet] == null) return NULL;
        int n = java.lang.reflect.Array.getLength(sheets[sheet]);
        sheets[sheet] = null;
        return n;
    }

    int item(int sheet, int lane, int i, int v) {
        if (no(sheet, 0, 3) || no(lane, 0, 2)) return BAD;
        try {
            if (lane == 0) ((byte[]) sheets[sheet])[i] = (byte) v;
            if (lane == 1) ((short[]) sheets[sheet])[i] = (short) v;
            if (lane == 2) ((int[]) sheets[sheet])[i] = v;
        } catch (NullPointerException e) {
            return NULL;
        } catch (ClassCastException e) {
            return CAST;
        } catch (ArrayIndexOutOfBoundsException e) {
            return INDEX;
        }
        return 1;
    }

    int copy(int from, int i, int to, int j, int n) {
        if (no(from, 0, 3) || no(to, 0, 3)) return BAD;
        try {
            System.arraycopy(sheets[from], i, sheets[to], j, n);
        } catch (NullPointerException e) {
            return NULL;
        } catch (ArrayStoreException e) {
            return CAST;
        } catch (IndexOutOfBoundsException e) {
            return INDEX;
        }
        return n;
    }
}
