import java.util.ArrayList;
import java.util.NoSuchElementException;

/**
 * A bank of spoken notes: sound is told by four bits a sample, gaps by a count;
 * notes lie in chains of small blocks, are shared when they are forwarded, and
 * are moved together at night while people go on speaking.
 */
public final class MessageBank {
    public static final int NONE = -1;

    private static final int MAX_BOXES = 4;
    private static final int MAX_QUOTA = 500;
    private static final int MAX_MESSAGES = 16;
    private static final int MAX_MOVES = 100;
    private static final int LINES = 3;
    private static final int KINDS = 4;
    private static final int MESSAGE_KIND = 0;
    private static final int LISTS = 3;
    private static final int OWN_RECORDINGS = 3;
    private static final int PREFACE = 2;
    private static final int BLOCKS = 40;
    private static final int BLOCK_ENTRIES = 4;
    private static final int FRAME = 8;
    private static final int QUIET = 48;
    private static final int CODED_QUIET_FRAMES = 2;
    private static final int GAP_FRAMES_A_UNIT = 4;
    private static final int STEPS = 49;
    private static final int FIRST_STEP = 16;
    private static final int LOWEST = -32768;
    private static final int HIGHEST = 32767;
    private static final int[] INDEX_CHANGES = {-1, -1, -1, -1, 2, 4, 6, 8};

    private final int[] steps = new int[STEPS];
    private final Store store = new Store();
    private final Box[] boxes = new Box[MAX_BOXES];
    private final Line[] lines = new Line[LINES];
    private final ArrayList<Message> messages = new ArrayList<Message>();
    private int boxCount = 0;
    private int messagesMade = 0;
    private int recordingsHeld = 0;

    public MessageBank() {
        steps[0] = FIRST_STEP;
        for (int i = 1; i < STEPS; i++) {
            steps[i] = steps[i - 1] + steps[i - 1] / 10 + 1;
        }
        for (int i = 0; i < MAX_BOXES; i++) {
            boxes[i] = new Box();
        }
        for (int i = 0; i < LINES; i++) {
            lines[i] = new Line();
        }
    }

    public int box(int quota) throws IllegalArgumentException, IllegalStateException {
        if (quota < 0 || quota > MAX_QUOTA) {
            throw new IllegalArgumentException("the quota is not 0 .. 500");
        }
        if (boxCount >= MAX_BOXES) {
            throw new IllegalStateException("there are 4 boxes");
        }
        boxes[boxCount].limit = quota;
        boxCount++;
        return boxCount - 1;
    }

    public void call(int line, int box, int kind)
            throws NoSuchElementException, IllegalArgumentException, IllegalStateException {
        requireBox(box);
        requireLine(line);
        if (kind < 0 || kind >= KINDS) {
            throw new IllegalArgumentException("there is no such kind");
        }
        if (lines[line].busy) {
            throw new IllegalStateException("the line is busy");
        }
        if (kind == MESSAGE_KIND && !hasRoomForMessage()) {
            throw new IllegalStateException("there are 16 messages");
        }
        lines[line].begin(box, kind);
    }

    public boolean sample(int line, int x) throws IllegalArgumentException, IllegalStateException {
        Line speaking = busyLine(line);
        if (!speaking.ended) {
            speaking.addToFrame(between(x, LOWEST, HIGHEST));
            if (speaking.filled >= FRAME) {
                takeFrame(speaking);
            }
        }
        return speaking.ended;
    }

    public int hang(int line) throws IllegalArgumentException, IllegalStateException {
        Line speaking = busyLine(line);
        if (speaking.filled > 0) {
            speaking.fillFrame();
            takeFrame(speaking);
        }
        speaking.busy = false;
        Recording spoken = speaking.recording;
        if (spoken.isBlank()) {
            return NONE;
        }
        if (speaking.kind == MESSAGE_KIND) {
            return addMessage(speaking.box, spoken, null);
        }
        replaceOwn(boxes[speaking.box], speaking.kind - 1, spoken);
        return 0;
    }

    public int next(int box, int list, int k)
            throws NoSuchElementException, IllegalArgumentException, IndexOutOfBoundsException {
        requireBox(box);
        requireList(list);
        int number = numberInList(box, list, k);
        if (number == NONE) {
            throw new IndexOutOfBoundsException("the list has no such message");
        }
        return number;
    }

    public int mark(int message, int list) throws NoSuchElementException, IllegalArgumentException {
        Message marked = messages.get(placeOf(message));
        requireList(list);
        int before = marked.list;
        marked.list = list;
        return before;
    }

    public int erase(int message) throws NoSuchElementException {
        int place = placeOf(message);
        Message erased = messages.get(place);
        messages.remove(place);
        return release(erased.recording) + release(erased.preface);
    }

    public int forward(int message, int box) throws NoSuchElementException, IllegalStateException {
        Message source = messages.get(placeOf(message));
        requireBox(box);
        Recording preface = boxes[source.box].own[PREFACE];
        int price = costOf(source.recording) + costOf(preface);
        if (!hasRoomForMessage() || !isWithinQuota(box, price)) {
            throw new IllegalStateException("there are 16 messages, or the quota does not allow it");
        }
        return addMessage(box, source.recording, preface);
    }

    public int duration(int message) throws NoSuchElementException {
        Message heard = messages.get(placeOf(message));
        return samplesOf(heard.preface) + samplesOf(heard.recording);
    }

    public int play(int message, int i) throws NoSuchElementException, IndexOutOfBoundsException {
        Message heard = messages.get(placeOf(message));
        int before = samplesOf(heard.preface);
        if (i < 0 || i >= before + samplesOf(heard.recording)) {
            throw new IndexOutOfBoundsException("the message has no such sample");
        }
        return i < before ? soundOf(heard.preface, i) : soundOf(heard.recording, i - before);
    }

    public int length(int box, int which) throws NoSuchElementException, IllegalArgumentException {
        requireBox(box);
        requireOwn(which);
        return samplesOf(boxes[box].own[which]);
    }

    public int greeting(int box, int which, int i)
            throws NoSuchElementException, IllegalArgumentException, IndexOutOfBoundsException {
        requireBox(box);
        requireOwn(which);
        Recording heard = boxes[box].own[which];
        if (i < 0 || i >= samplesOf(heard)) {
            throw new IndexOutOfBoundsException("the recording has no such sample");
        }
        return soundOf(heard, i);
    }

    public int used(int box) throws NoSuchElementException {
        requireBox(box);
        return usedBy(box);
    }

    public int quota(int box) throws NoSuchElementException {
        requireBox(box);
        return boxes[box].limit;
    }

    public int pack(int n) throws IllegalArgumentException {
        if (n < 0 || n > MAX_MOVES) {
            throw new IllegalArgumentException("the number of moves is not 0 .. 100");
        }
        int moved = 0;
        while (moved < n && store.moveGreatest()) {
            moved++;
        }
        return moved;
    }

    public int block(int b) throws IndexOutOfBoundsException {
        if (b < 0 || b >= BLOCKS) {
            throw new IndexOutOfBoundsException("there is no such block");
        }
        return store.blocks[b].count;
    }

    public int step(int i) throws IndexOutOfBoundsException {
        if (i < 0 || i >= STEPS) {
            throw new IndexOutOfBoundsException("there is no such step");
        }
        return steps[i];
    }

    public int total(int what) {
        switch (what) {
            case 0:
                return boxCount;
            case 1:
                return messages.size();
            case 2:
                return recordingsHeld;
            case 3:
                return store.countFree();
            case 4:
                return store.greatestUsed();
            case 5:
                return busyBits();
            default:
                return NONE;
        }
    }

    private void requireBox(int box) {
        if (box < 0 || box >= boxCount) {
            throw new NoSuchElementException("there is no such box");
        }
    }

    private void requireLine(int line) {
        if (line < 0 || line >= LINES) {
            throw new IllegalArgumentException("there is no such line");
        }
    }

    private void requireList(int list) {
        if (list < 0 || list >= LISTS) {
            throw new IllegalArgumentException("there is no such list");
        }
    }

    private void requireOwn(int which) {
        if (which < 0 || which >= OWN_RECORDINGS) {
            throw new IllegalArgumentException("a box has no such recording");
        }
    }

    private Line busyLine(int line) {
        requireLine(line);
        if (!lines[line].busy) {
            throw new IllegalStateException("the line is not busy");
        }
        return lines[line];
    }

    private int placeOf(int message) {
        for (int i = 0; i < messages.size(); i++) {
            if (messages.get(i).number == message) {
                return i;
            }
        }
        throw new NoSuchElementException("there is no such message");
    }

    /** Messages stand in the order in which they were made, so their numbers rise. */
    private int numberInList(int box, int list, int k) {
        int seen = 0;
        for (int i = 0; i < messages.size(); i++) {
            Message message = messages.get(i);
            if (message.box == box && message.list == list) {
                if (seen == k) {
                    return message.number;
                }
                seen++;
            }
        }
        return NONE;
    }

    private boolean hasRoomForMessage() {
        int there = messages.size();
        for (int i = 0; i < LINES; i++) {
            if (lines[i].speaksMessage()) {
                there++;
            }
        }
        return there < MAX_MESSAGES;
    }

    private int usedBy(int box) {
        int sum = 0;
        for (int i = 0; i < messages.size(); i++) {
            Message message = messages.get(i);
            if (message.box == box) {
                sum += costOf(message.recording) + costOf(message.preface);
            }
        }
        for (int i = 0; i < LINES; i++) {
            if (lines[i].speaksMessage() && lines[i].box == box) {
                sum += costOf(lines[i].recording);
            }
        }
        return sum;
    }

    private boolean isWithinQuota(int box, int price) {
        return usedBy(box) + price <= boxes[box].limit;
    }

    private int busyBits() {
        int bits = 0;
        for (int i = 0; i < LINES; i++) {
            if (lines[i].busy) {
                bits |= 1 << i;
            }
        }
        return bits;
    }

    private int addMessage(int box, Recording recording, Recording preface) {
        Message made = new Message(messagesMade, box, recording, preface);
        messagesMade++;
        messages.add(made);
        hold(recording);
        hold(preface);
        return made.number;
    }

    private void replaceOwn(Box box, int which, Recording recording) {
        Recording before = box.own[which];
        box.own[which] = recording;
        hold(recording);
        release(before);
    }

    private void hold(Recording recording) {
        if (recording == null) {
            return;
        }
        if (recording.holders == 0) {
            recordingsHeld++;
        }
        recording.holders++;
    }

    /** How many blocks became free because nobody has the recording any more. */
    private int release(Recording recording) {
        if (recording == null) {
            return 0;
        }
        recording.holders--;
        if (recording.holders > 0) {
            return 0;
        }
        recordingsHeld--;
        return recording.freeBlocks();
    }

    private void takeFrame(Line line) {
        boolean quiet = line.isFrameQuiet();
        boolean inGap = quiet && line.quietFrames >= CODED_QUIET_FRAMES;
        int price = inGap ? gapPrice(line.quietFrames) : 1;
        line.filled = 0;
        if (!fits(line, inGap, price)) {
            line.ended = true;
            return;
        }
        if (inGap) {
            line.lengthenGap();
        } else {
            codeFrame(line);
        }
        line.quietFrames = quiet ? line.quietFrames + 1 : 0;
        line.recording.cost += price;
        line.recording.samples += FRAME;
    }

    /** What one more quiet frame adds to the cost, behind two or more of them. */
    private int gapPrice(int quietFrames) {
        if (quietFrames == CODED_QUIET_FRAMES) {
            return 1 - CODED_QUIET_FRAMES;
        }
        return quietFrames % GAP_FRAMES_A_UNIT == 0 ? 1 : 0;
    }

    private boolean fits(Line line, boolean inGap, int price) {
        if (!inGap && line.recording.needsBlock() && store.leastFree() == NONE) {
            return false;
        }
        return line.kind != MESSAGE_KIND || isWithinQuota(line.box, price);
    }

    private void codeFrame(Line line) {
        Recording recording = line.recording;
        if (recording.needsBlock()) {
            int free = store.leastFree();
            if (free == NONE) {
                return;
            }
            recording.addBlock(store.blocks[free]);
        }
        line.codeInto(recording.last, steps);
    }

    private static int costOf(Recording recording) {
        return recording == null ? 0 : recording.cost;
    }

    private static int samplesOf(Recording recording) {
        return recording == null ? 0 : recording.samples;
    }

    private static int soundOf(Recording recording, int i) {
        return recording == null ? 0 : recording.soundAt(i);
    }

    private static int between(int x, int least, int greatest) {
        return Math.max(least, Math.min(greatest, x));
    }

    /** Up to four entries and the way to the next block of the chain; a free block has no entries. */
    private static final class Block {
        /** For each entry the frames of the gap, 0 for a coded frame. */
        final int[] gapFrames = new int[BLOCK_ENTRIES];
        /** How the samples of coded frames sound: kept, so that hearing one need not decode all before it. */
        final int[] sounds = new int[BLOCK_ENTRIES * FRAME];
        int count = 0;
        Block after = null;

        int samplesAt(int entry) {
            return gapFrames[entry] > 0 ? gapFrames[entry] * FRAME : FRAME;
        }

        int soundAt(int entry, int i) {
            return gapFrames[entry] > 0 ? 0 : sounds[entry * FRAME + i];
        }
    }

    /** The blocks by their numbers. */
    private static final class Store {
        final Block[] blocks = new Block[BLOCKS];

        Store() {
            for (int i = 0; i < BLOCKS; i++) {
                blocks[i] = new Block();
            }
        }

        int leastFree() {
            for (int i = 0; i < BLOCKS; i++) {
                if (blocks[i].count == 0) {
                    return i;
                }
            }
            return NONE;
        }

        int greatestUsed() {
            for (int i = BLOCKS - 1; i >= 0; i--) {
                if (blocks[i].count > 0) {
                    return i;
                }
            }
            return NONE;
        }

        int countFree() {
            int free = 0;
            for (int i = 0; i < BLOCKS; i++) {
                if (blocks[i].count == 0) {
                    free++;
                }
            }
            return free;
        }

        /** The two blocks change numbers, so that no chain that leads to the moved one must be mended. */
        boolean moveGreatest() {
            int from = greatestUsed();
            int to = leastFree();
            if (to == NONE || to > from) {
                return false;
            }
            Block moved = blocks[from];
            blocks[from] = blocks[to];
            blocks[to] = moved;
            return true;
        }
    }

    /** A chain of blocks, with how many messages, greetings and prefaces have it. */
    private static final class Recording {
        Block first = null;
        Block last = null;
        int samples = 0;
        int cost = 0;
        int holders = 0;

        boolean isBlank() {
            return first == null;
        }

        boolean needsBlock() {
            return last == null || last.count >= BLOCK_ENTRIES;
        }

        void addBlock(Block fresh) {
            if (last == null) {
                first = fresh;
            } else {
                last.after = fresh;
            }
            last = fresh;
        }

        void dropLastEntry() {
            if (last == null) {
                return;
            }
            last.count--;
            if (last.count == 0) {
                dropLastBlock();
            }
        }

        private void dropLastBlock() {
            Block before = null;
            for (Block b = first; b != null && b != last; b = b.after) {
                before = b;
            }
            last = before;
            if (before == null) {
                first = null;
            } else {
                before.after = null;
            }
        }

        void makeLastEntryGap() {
            if (last != null && last.count > 0) {
                last.gapFrames[last.count - 1] = CODED_QUIET_FRAMES + 1;
            }
        }

        void lengthenLastEntry() {
            if (last != null && last.count > 0) {
                last.gapFrames[last.count - 1]++;
            }
        }

        int soundAt(int i) {
            int left = i;
            for (Block b = first; b != null; b = b.after) {
                for (int entry = 0; entry < b.count; entry++) {
                    int here = b.samplesAt(entry);
                    if (left < here) {
                        return b.soundAt(entry, left);
                    }
                    left -= here;
                }
            }
            return 0;
        }

        int freeBlocks() {
            int freed = 0;
            Block b = first;
            while (b != null) {
                Block following = b.after;
                b.count = 0;
                b.after = null;
                freed++;
                b = following;
            }
            first = null;
            last = null;
            return freed;
        }
    }

    private static final class Message {
        final int number;
        final int box;
        final Recording recording;
        final Recording preface;
        int list = 0;

        Message(int number, int box, Recording recording, Recording preface) {
            this.number = number;
            this.box = box;
            this.recording = recording;
            this.preface = preface;
        }
    }

    private static final class Box {
        /** The two greetings and the preface, null for none. */
        final Recording[] own = new Recording[OWN_RECORDINGS];
        int limit = 0;
    }

    /** A line with the frame that is being filled and the guess that its coding goes on from. */
    private static final class Line {
        final int[] frame = new int[FRAME];
        int filled = 0;
        boolean busy = false;
        boolean ended = false;
        int box = 0;
        int kind = 0;
        Recording recording = new Recording();
        int quietFrames = 0;
        int guess = 0;
        int index = 0;

        void begin(int forBox, int ofKind) {
            busy = true;
            ended = false;
            box = forBox;
            kind = ofKind;
            recording = new Recording();
            filled = 0;
            quietFrames = 0;
            forgetGuess();
        }

        boolean speaksMessage() {
            return busy && kind == MESSAGE_KIND;
        }

        void addToFrame(int x) {
            if (filled < FRAME) {
                frame[filled] = x;
                filled++;
            }
        }

        void fillFrame() {
            while (filled < FRAME) {
                frame[filled] = 0;
                filled++;
            }
        }

        boolean isFrameQuiet() {
            for (int i = 0; i < FRAME; i++) {
                if (frame[i] < -QUIET || frame[i] > QUIET) {
                    return false;
                }
            }
            return true;
        }

        void lengthenGap() {
            if (quietFrames == CODED_QUIET_FRAMES) {
                recording.dropLastEntry();
                recording.makeLastEntryGap();
            } else {
                recording.lengthenLastEntry();
            }
            forgetGuess();
        }

        void codeInto(Block block, int[] steps) {
            if (block == null || block.count >= BLOCK_ENTRIES) {
                return;
            }
            int entry = block.count;
            block.gapFrames[entry] = 0;
            for (int i = 0; i < FRAME; i++) {
                tell(frame[i], steps[index]);
                block.sounds[entry * FRAME + i] = guess;
            }
            block.count++;
        }

        private void forgetGuess() {
            guess = 0;
            index = 0;
        }

        private void tell(int x, int step) {
            boolean below = x < guess;
            int distance = below ? guess - x : x - guess;
            int change = step / 8;
            int told = 0;
            int part = step;
            for (int worth = 4; worth > 0; worth /= 2) {
                if (distance >= part) {
                    told += worth;
                    distance -= part;
                    change += part;
                }
                part /= 2;
            }
            guess = between(below ? guess - change : guess + change, LOWEST, HIGHEST);
            index = between(index + INDEX_CHANGES[told], 0, STEPS - 1);
        }
    }
}
