import java.util.ArrayList;
import java.util.List;

/**
 * All that can be read of an object by its calls, in parts, each of them few enough calls for an
 * object that has been filled. Reading changes the object: each part wants one of its own.
 */
final class Reading {
    static final int OF_NOW = 4;
    static final int PARTS = 3 * OF_NOW + 4 + 1;

    private final ChoirWires x;
    private final List<Integer> answers = new ArrayList<>();

    private Reading(ChoirWires x) {
        this.x = x;
    }

    /** Parts of what is now, the same of both images, the sheets, the tape. */
    static List<Integer> part(ChoirWires x, int part) {
        Reading r = new Reading(x);
        if (part < 3 * OF_NOW) {
            if (part >= OF_NOW) {
                r.answers.add(x.restore(part / OF_NOW - 1));
            }
            r.now(part % OF_NOW);
        } else if (part < 3 * OF_NOW + 4) {
            r.sheet(part - 3 * OF_NOW);
        } else {
            r.tape();
        }
        return r.answers;
    }

    private void now(int part) {
        switch (part) {
            case 0 -> rooms();
            case 1 -> piece();
            case 2 -> lostWords(1, 4);
            default -> lostWords(5, 7);
        }
    }

    private void rooms() {
        for (int what = 0; what < 6; what++) {
            answers.add(x.count(what));
        }
        answers.add(x.pace(1));
        answers.add(x.fit(0));
        answers.add(x.most(1));
        for (int room = 0; room < 8; room++) {
            for (int what = 0; what < 6; what++) {
                answers.add(x.set(room, what, 0));
            }
            for (int to = 0; to < 8; to++) {
                answers.add(x.wire(room, to, 0));
            }
        }
    }

    /** A piece's sounds, and of each loss row the pieces and the sums. */
    private void piece() {
        for (int beat = 0; beat < 64; beat++) {
            answers.add(x.sound(beat));
        }
        for (int row = 0; row < 8; row++) {
            for (int g = 1; g <= 12; g++) {
                answers.add(x.lost(row, g));
            }
        }
    }

    private void lostWords(int first, int last) {
        for (int round = first; round <= last; round++) {
            for (int i = 0; i < 64; i++) {
                if (i / 8 != i % 8) {
                    answers.add(x.lose(round, i / 8, i % 8, false));
                }
            }
        }
    }

    /** Each item by the wire that it makes from one room to another, by way of another sheet. */
    private void sheet(int sheet) {
        int scratch = (sheet + 1) % 4;
        x.room(4);
        x.room(4);
        for (int lane = 0; lane < 3; lane++) {
            x.sheet(scratch, lane, 8);
            answers.add(x.copy(sheet, 0, scratch, 0, 0));
            for (int i = 0; i < 40 && x.copy(sheet, i, scratch, 1, 1) == 1; i++) {
                answers.add(x.wires(0, scratch, lane, 0));
                answers.add(x.wire(0, 1, 0));
            }
        }
        answers.add(x.drop(sheet));
    }

    private void tape() {
        answers.add(x.type(' ', 1));
        answers.add(x.piece());
        for (int beat = 0; beat < 64; beat++) {
            answers.add(x.sound(beat));
        }
    }
}
