import java.util.ArrayList;
import java.util.LinkedHashSet;
import java.util.List;
import java.util.NoSuchElementException;
import java.util.Set;
import java.util.TreeSet;

/**
 * The document once more, in another form: a recording is its raw frames, and entries, cost, blocks
 * and sounds are told anew from them each time. Only the numbers of the blocks are kept.
 */
final class Model {
    static final class Tape {
        final List<int[]> frames = new ArrayList<>();
        final List<Integer> numbers = new ArrayList<>();
    }

    static final class Note {
        int id;
        int box;
        int list;
        Tape tape;
        Tape preface;
    }

    static final class Speaker {
        int box;
        int kind;
        boolean ended;
        final List<Integer> rest = new ArrayList<>();
        final Tape tape = new Tape();
    }

    /** How often the rare things happened, so that a test can see that they did. */
    final int[] seen = new int[8];
    static final int NO_BLOCK = 0;
    static final int OVER_QUOTA = 1;
    static final int GAP_FREED_BLOCK = 2;
    static final int GAP_OVER_QUOTA = 3;
    static final int FULL_OF_MESSAGES = 4;
    static final int MOVED = 5;
    static final int FORWARD_OVER_QUOTA = 6;
    static final int ERASED_TWO_CHAINS = 7;

    final List<Integer> quotas = new ArrayList<>();
    final List<Tape[]> own = new ArrayList<>();
    final List<Note> notes = new ArrayList<>();
    final Speaker[] speakers = new Speaker[3];
    int made = 0;

    static int stepOf(int i) {
        int s = 16;
        for (int n = 0; n < i; n++) {
            s = s + s / 10 + 1;
        }
        return s;
    }

    static boolean isQuiet(int[] frame) {
        for (int x : frame) {
            if (Math.abs(x) > 48) {
                return false;
            }
        }
        return true;
    }

    /** The entries: 0 for a coded frame, the number of frames for a gap. */
    static List<Integer> entries(List<int[]> frames) {
        List<Integer> out = new ArrayList<>();
        int at = 0;
        while (at < frames.size()) {
            int end = at;
            while (end < frames.size() && isQuiet(frames.get(end))) {
                end++;
            }
            if (end - at >= 3) {
                out.add(end - at);
                at = end;
            } else {
                out.add(0);
                at++;
            }
        }
        return out;
    }

    static int cost(Tape tape) {
        int sum = 0;
        if (tape != null) {
            for (int e : entries(tape.frames)) {
                sum += e == 0 ? 1 : (e + 3) / 4;
            }
        }
        return sum;
    }

    static int need(List<int[]> frames) {
        return (entries(frames).size() + 3) / 4;
    }

    static List<Integer> sounds(Tape tape) {
        List<Integer> out = new ArrayList<>();
        if (tape == null) {
            return out;
        }
        int g = 0;
        int x = 0;
        int frame = 0;
        for (int e : entries(tape.frames)) {
            if (e > 0) {
                for (int i = 0; i < 8 * e; i++) {
                    out.add(0);
                }
                g = 0;
                x = 0;
                frame += e;
                continue;
            }
            for (int value : tape.frames.get(frame)) {
                int s = stepOf(x);
                long d = value - g;
                boolean sign = d < 0;
                d = Math.abs(d);
                int sum = 0;
                int change = s / 8;
                if (d >= s) {
                    sum += 4;
                    d -= s;
                    change += s;
                }
                if (d >= s / 2) {
                    sum += 2;
                    d -= s / 2;
                    change += s / 2;
                }
                if (d >= s / 4) {
                    sum += 1;
                    change += s / 4;
                }
                g = Math.max(-32768, Math.min(32767, sign ? g - change : g + change));
                x = Math.max(0, Math.min(48, x + (sum < 4 ? -1 : 2 * (sum - 3))));
                out.add(g);
            }
            frame++;
        }
        return out;
    }

    Set<Tape> held() {
        Set<Tape> out = new LinkedHashSet<>();
        for (Note n : notes) {
            out.add(n.tape);
            out.add(n.preface);
        }
        for (Tape[] of : own) {
            for (Tape t : of) {
                out.add(t);
            }
        }
        out.remove(null);
        return out;
    }

    Set<Tape> living() {
        Set<Tape> out = held();
        for (Speaker s : speakers) {
            if (s != null) {
                out.add(s.tape);
            }
        }
        return out;
    }

    TreeSet<Integer> taken() {
        TreeSet<Integer> out = new TreeSet<>();
        for (Tape t : living()) {
            out.addAll(t.numbers);
        }
        return out;
    }

    int leastFree() {
        TreeSet<Integer> taken = taken();
        for (int i = 0; i < 40; i++) {
            if (!taken.contains(i)) {
                return i;
            }
        }
        return -1;
    }

    int uses(int box) {
        int sum = 0;
        for (Note n : notes) {
            sum += n.box == box ? cost(n.tape) + cost(n.preface) : 0;
        }
        for (Speaker s : speakers) {
            sum += s != null && s.kind == 0 && s.box == box ? cost(s.tape) : 0;
        }
        return sum;
    }

    int spokenNotes() {
        int n = notes.size();
        for (Speaker s : speakers) {
            n += s != null && s.kind == 0 ? 1 : 0;
        }
        return n;
    }

    void requireBox(int b) {
        if (b < 0 || b >= quotas.size()) {
            throw new NoSuchElementException();
        }
    }

    static void requireArgument(int x, int below) {
        if (x < 0 || x >= below) {
            throw new IllegalArgumentException();
        }
    }

    Note note(int id) {
        for (Note n : notes) {
            if (n.id == id) {
                return n;
            }
        }
        throw new NoSuchElementException();
    }

    Speaker speaker(int line) {
        requireArgument(line, 3);
        if (speakers[line] == null) {
            throw new IllegalStateException();
        }
        return speakers[line];
    }

    int box(int quota) {
        requireArgument(quota, 501);
        if (quotas.size() == 4) {
            throw new IllegalStateException();
        }
        quotas.add(quota);
        own.add(new Tape[3]);
        return quotas.size() - 1;
    }

    void call(int line, int box, int kind) {
        requireBox(box);
        requireArgument(line, 3);
        requireArgument(kind, 4);
        if (speakers[line] != null) {
            throw new IllegalStateException();
        }
        if (kind == 0 && spokenNotes() >= 16) {
            seen[FULL_OF_MESSAGES]++;
            throw new IllegalStateException();
        }
        speakers[line] = new Speaker();
        speakers[line].box = box;
        speakers[line].kind = kind;
    }

    boolean sample(int line, int x) {
        Speaker s = speaker(line);
        if (!s.ended) {
            s.rest.add(Math.max(-32768, Math.min(32767, x)));
            if (s.rest.size() == 8) {
                offer(s);
            }
        }
        return s.ended;
    }

    void offer(Speaker s) {
        int[] frame = new int[8];
        for (int i = 0; i < 8; i++) {
            frame[i] = s.rest.get(i);
        }
        s.rest.clear();
        List<int[]> longer = new ArrayList<>(s.tape.frames);
        longer.add(frame);
        Tape then = new Tape();
        then.frames.addAll(longer);
        int need = need(longer);
        if (need > s.tape.numbers.size() && leastFree() < 0) {
            seen[NO_BLOCK]++;
            s.ended = true;
            return;
        }
        if (s.kind == 0 && uses(s.box) - cost(s.tape) + cost(then) > quotas.get(s.box)) {
            seen[entries(longer).size() == entries(s.tape.frames).size() ? GAP_OVER_QUOTA : OVER_QUOTA]++;
            s.ended = true;
            return;
        }
        if (need > s.tape.numbers.size()) {
            s.tape.numbers.add(leastFree());
        }
        if (need < s.tape.numbers.size()) {
            seen[GAP_FREED_BLOCK]++;
            s.tape.numbers.remove(s.tape.numbers.size() - 1);
        }
        s.tape.frames.add(frame);
    }

    int hang(int line) {
        Speaker s = speaker(line);
        if (!s.rest.isEmpty()) {
            while (s.rest.size() < 8) {
                s.rest.add(0);
            }
            offer(s);
        }
        speakers[line] = null;
        if (s.tape.frames.isEmpty()) {
            return -1;
        }
        if (s.kind > 0) {
            own.get(s.box)[s.kind - 1] = s.tape;
            return 0;
        }
        return newNote(s.box, s.tape, null);
    }

    int newNote(int box, Tape tape, Tape preface) {
        Note n = new Note();
        n.id = made++;
        n.box = box;
        n.tape = tape;
        n.preface = preface;
        notes.add(n);
        return n.id;
    }

    int next(int box, int list, int k) {
        requireBox(box);
        requireArgument(list, 3);
        TreeSet<Integer> ids = new TreeSet<>();
        for (Note n : notes) {
            if (n.box == box && n.list == list) {
                ids.add(n.id);
            }
        }
        if (k < 0 || k >= ids.size()) {
            throw new IndexOutOfBoundsException();
        }
        return new ArrayList<>(ids).get(k);
    }

    int mark(int id, int list) {
        Note n = note(id);
        requireArgument(list, 3);
        int before = n.list;
        n.list = list;
        return before;
    }

    int erase(int id) {
        Note n = note(id);
        int before = taken().size();
        notes.remove(n);
        int freed = before - taken().size();
        if (n.preface != null && freed == n.tape.numbers.size() + n.preface.numbers.size()) {
            seen[ERASED_TWO_CHAINS]++;
        }
        return freed;
    }

    int forward(int id, int box) {
        Note n = note(id);
        requireBox(box);
        Tape preface = own.get(n.box)[2];
        if (spokenNotes() >= 16) {
            seen[FULL_OF_MESSAGES]++;
            throw new IllegalStateException();
        }
        if (uses(box) + cost(n.tape) + cost(preface) > quotas.get(box)) {
            seen[FORWARD_OVER_QUOTA]++;
            throw new IllegalStateException();
        }
        return newNote(box, n.tape, preface);
    }

    List<Integer> heard(int id) {
        Note n = note(id);
        List<Integer> out = sounds(n.preface);
        out.addAll(sounds(n.tape));
        return out;
    }

    int duration(int id) {
        return heard(id).size();
    }

    int play(int id, int i) {
        return heard(id).get(i);
    }

    List<Integer> heardOwn(int box, int which) {
        requireBox(box);
        requireArgument(which, 3);
        return sounds(own.get(box)[which]);
    }

    int length(int box, int which) {
        return heardOwn(box, which).size();
    }

    int greeting(int box, int which, int i) {
        return heardOwn(box, which).get(i);
    }

    int used(int box) {
        requireBox(box);
        return uses(box);
    }

    int quota(int box) {
        requireBox(box);
        return quotas.get(box);
    }

    int pack(int n) {
        requireArgument(n, 101);
        for (int moved = 0; moved < n; moved++) {
            TreeSet<Integer> taken = taken();
            int free = leastFree();
            if (taken.isEmpty() || free < 0 || free > taken.last()) {
                return moved;
            }
            for (Tape t : living()) {
                t.numbers.replaceAll(b -> b.equals(taken.last()) ? free : b);
            }
            seen[MOVED]++;
        }
        return n;
    }

    int block(int b) {
        if (b < 0 || b >= 40) {
            throw new IndexOutOfBoundsException();
        }
        for (Tape t : living()) {
            int at = t.numbers.indexOf(b);
            if (at >= 0) {
                return Math.min(4, entries(t.frames).size() - 4 * at);
            }
        }
        return 0;
    }

    int step(int i) {
        if (i < 0 || i > 48) {
            throw new IndexOutOfBoundsException();
        }
        return stepOf(i);
    }

    int total(int what) {
        TreeSet<Integer> taken = taken();
        switch (what) {
            case 0: return quotas.size();
            case 1: return notes.size();
            case 2: return held().size();
            case 3: return 40 - taken.size();
            case 4: return taken.isEmpty() ? -1 : taken.last();
            case 5: return (speakers[0] == null ? 0 : 1) + (speakers[1] == null ? 0 : 2) + (speakers[2] == null ? 0 : 4);
            default: return -1;
        }
    }
}
