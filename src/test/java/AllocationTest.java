import com.sun.management.ThreadMXBean;
import java.lang.management.ManagementFactory;

/** All calls of a run live in one room: an object makes its rows once, and no call makes more. */
public final class AllocationTest {
    private static final Due DUE = new Due("AllocationTest");
    private static final int OBJECTS = 50;
    private static final long MOST_BYTES_OF_NEW = 20000;
    private static final int TIMES = 200;
    private static final long MOST_BYTES_OF_CALLS = 10000;

    private static int answers = 0;

    public static void main(String[] args) {
        ThreadMXBean threads = (ThreadMXBean) ManagementFactory.getThreadMXBean();
        ChoirWires x = filled();
        for (int i = 0; i < TIMES; i++) {
            askAll(x);
        }
        long before = threads.getCurrentThreadAllocatedBytes();
        for (int i = 0; i < TIMES; i++) {
            askAll(x);
        }
        long calls = threads.getCurrentThreadAllocatedBytes() - before;
        DUE.holds("bytes of calls: " + calls, calls < MOST_BYTES_OF_CALLS);
        before = threads.getCurrentThreadAllocatedBytes();
        for (int i = 0; i < OBJECTS; i++) {
            answers += new ChoirWires().count(0);
        }
        long made = (threads.getCurrentThreadAllocatedBytes() - before) / OBJECTS;
        DUE.holds("bytes of a new object: " + made, made > 0 && made < MOST_BYTES_OF_NEW);
        DUE.holds("something was answered: " + answers, answers != 0);
        DUE.end();
    }

    private static ChoirWires filled() {
        ChoirWires x = Choirs.meshed(30, 0, 1, 2, 3, 4, 0);
        Choirs.read(x, "ab.cd2.-e9.fg");
        for (int sheet = 0; sheet < 4; sheet++) {
            x.sheet(sheet, 1, 40);
        }
        return x;
    }

    private static void askAll(ChoirWires x) {
        answers += x.room(6) + x.room(0) + x.set(0, 1, 3) + x.wire(0, 1, 40) + x.wires(0, 0, 1, 0);
        answers += x.wire(0, 1, 9) + x.pace(400) + x.time(0, 40) + x.paceAt(40) + x.slows(40, 9999);
        answers += x.apart(40) + x.count(2) + x.count(4) + x.hold(0, 1) + x.together(24, 8) + x.together(24, 0);
        answers += x.type(0x61622E63, 4) + x.piece() + x.sound(1) + x.fit(3) + x.clashes(2) + x.canon(1);
        answers += x.sea(3, 900) + x.lose(1, 0, 1, true) + x.goes(0, 7) + x.knows(0, 7) + x.loss(5) + x.lost(0, 5);
        answers += x.group() + x.clear() + x.most(3) + x.net() + x.image(0) + x.restore(0) + x.sheet(0, 1, 40);
        answers += x.item(0, 1, 5, 7) + x.copy(0, 0, 1, 1, 30) + x.drop(3) + x.sheet(3, 1, 9);
    }
}
