import java.util.Arrays;

/**
 * A MessageBank with short words for speaking. Its calls are counted, so that no test asks for more
 * of one object than the document promises.
 */
final class Bank {
    static final int CALLS = 512;

    private final MessageBank bank = new MessageBank();
    private int calls = 0;

    static Bank withBoxes(int... quotas) {
        Bank x = new Bank();
        for (int q : quotas) {
            x.box(q);
        }
        return x;
    }

    /** All forty blocks used, one by each recording: 16 messages, 15 prefaces of theirs, and 9 of boxes. */
    static Bank withoutFreeBlocks() {
        Bank x = withBoxes(500, 500, 500, 500);
        for (int i = 0; i < 15; i++) {
            x.shortNote(0, 3);
            int first = x.shortNote(0, 0);
            x.forward(first, i % 4);
            x.erase(first);
        }
        x.shortNote(0, 0);
        for (int b = 0; b < 4; b++) {
            x.shortNote(b, 1);
            x.shortNote(b, 2);
        }
        x.shortNote(1, 3);
        return x;
    }

    /** One block is free; message 30, which had it, stood alone. */
    static Bank withOneFreeBlock() {
        Bank x = withoutFreeBlocks();
        x.erase(30);
        return x;
    }

    /** A row of n times a value, and others behind it. */
    static int[] times(int n, int value, int... behind) {
        int[] row = new int[n + behind.length];
        Arrays.fill(row, 0, n, value);
        System.arraycopy(behind, 0, row, n, behind.length);
        return row;
    }

    /** Sample by sample: true when the recording has ended. */
    boolean samples(int line, int... values) {
        boolean ended = false;
        for (int v : values) {
            ended = sample(line, v);
        }
        return ended;
    }

    boolean frame(int line, int value) {
        boolean ended = false;
        for (int i = 0; i < 8; i++) {
            ended = sample(line, value);
        }
        return ended;
    }

    boolean frames(int line, int value, int n) {
        boolean ended = false;
        for (int i = 0; i < n; i++) {
            ended = frame(line, value);
        }
        return ended;
    }

    int note(int line, int box, int kind, int value, int frames) {
        call(line, box, kind);
        frames(line, value, frames);
        return hang(line);
    }

    int shortNote(int box, int kind) {
        call(0, box, kind);
        sample(0, 90);
        return hang(0);
    }

    /** The entries of the blocks from 0 on, up to the used one with the greatest number, as "4 0 1". */
    String blocks() {
        StringBuilder text = new StringBuilder();
        int greatest = total(4);
        for (int b = 0; b <= greatest; b++) {
            text.append(b > 0 ? " " : "").append(block(b));
        }
        return text.toString();
    }

    /** How the samples of a message from one up to another sound. */
    String heard(int message, int from, int to) {
        int[] sounds = new int[to - from];
        for (int i = from; i < to; i++) {
            sounds[i - from] = play(message, i);
        }
        return Check.row(sounds);
    }

    /** The free block with the least number, from a number on, when there is one. */
    int leastFree(int from) {
        int b = from;
        while (block(b) > 0) {
            b++;
        }
        return b;
    }

    int calls() {
        return calls;
    }

    private MessageBank counted() {
        calls++;
        if (calls > CALLS) {
            throw new AssertionError("a test asks one object for more than " + CALLS + " calls");
        }
        return bank;
    }

    int box(int quota) {
        return counted().box(quota);
    }

    /** Answers 0, so that it can be asked like the others. */
    int call(int line, int box, int kind) {
        counted().call(line, box, kind);
        return 0;
    }

    boolean sample(int line, int x) {
        return counted().sample(line, x);
    }

    int hang(int line) {
        return counted().hang(line);
    }

    int next(int box, int list, int k) {
        return counted().next(box, list, k);
    }

    int mark(int message, int list) {
        return counted().mark(message, list);
    }

    int erase(int message) {
        return counted().erase(message);
    }

    int forward(int message, int box) {
        return counted().forward(message, box);
    }

    int duration(int message) {
        return counted().duration(message);
    }

    int play(int message, int i) {
        return counted().play(message, i);
    }

    int length(int box, int which) {
        return counted().length(box, which);
    }

    int greeting(int box, int which, int i) {
        return counted().greeting(box, which, i);
    }

    int used(int box) {
        return counted().used(box);
    }

    int quota(int box) {
        return counted().quota(box);
    }

    int pack(int n) {
        return counted().pack(n);
    }

    int block(int b) {
        return counted().block(b);
    }

    int step(int i) {
        return counted().step(i);
    }

    int total(int what) {
        return counted().total(what);
    }
}
