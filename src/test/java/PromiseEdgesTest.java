import java.util.function.IntFunction;

/** The boundary cases that the sentences of the promises name, sentence by sentence. */
public final class PromiseEdgesTest {
    private static final int MIN = Integer.MIN_VALUE;
    private static final int MAX = Integer.MAX_VALUE;
    private static final int LOUD = 300;
    private static final int QUIET = 0;
    private static final String NO_ELEMENT = "throws.NoSuchElementException";
    private static final String ARGUMENT = "throws.IllegalArgumentException";
    private static final String BOUNDS = "throws.IndexOutOfBoundsException";
    private static final Check check = new Check("PromiseEdgesTest");

    public static void main(String[] args) {
        newObject();
        boxQuotas();
        fourBoxes();
        callKinds();
        callArguments();
        callOnBusyLine();
        callWithSixteen();
        sampleBeyond();
        sampleEnded();
        sampleArguments();
        hangInAFrame();
        hangInAGap();
        hangDropsWhatDoesNotFit();
        hangNothing();
        hangMessage();
        hangGreeting();
        hangArguments();
        nextOfAList();
        nextArguments();
        markLists();
        markArguments();
        eraseBlocks();
        eraseArguments();
        forwardPreface();
        forwardWithSixteen();
        forwardQuota();
        forwardArguments();
        duration();
        play();
        length();
        greeting();
        usedAndQuota();
        packMoves();
        packAsLongAsLower();
        packWhatIsSpoken();
        packArguments();
        block();
        step();
        totals();
        totalOfRecordings();
        totalOfBlocks();
        totalOfAnother();
        check.end();
    }

    private static void promise(int number, String words) {
        check.sentence("Promise " + number + ":", words);
    }

    /** The nearest numbers and the farthest ones outside least .. greatest answer like this. */
    private static void outside(String what, int least, int greatest, String due, IntFunction<Object> call) {
        for (int number : new int[] {MIN, least - 1, greatest + 1, MAX}) {
            check.due(what + " " + number, due, () -> call.apply(number));
        }
    }

    private static String list(Bank x, int box, int list, int n) {
        int[] numbers = new int[n];
        for (int k = 0; k < n; k++) {
            numbers[k] = x.next(box, list, k);
        }
        return Check.row(numbers);
    }

    private static Bank withMessages(int n) {
        Bank x = Bank.withBoxes(500, 500);
        for (int i = 0; i < n; i++) {
            x.shortNote(0, 0);
        }
        return x;
    }

    private static void newObject() {
        promise(1, "No boxes, no messages; all blocks are free.");
        Bank x = new Bank();
        outside("box", 0, -1, NO_ELEMENT, x::used);
        outside("message", 0, -1, NO_ELEMENT, x::duration);
        check.due("boxes", 0, () -> x.total(0));
        check.due("messages", 0, () -> x.total(1));
        check.due("recordings", 0, () -> x.total(2));
        check.due("free blocks", 40, () -> x.total(3));
        check.due("the greatest used block", -1, () -> x.total(4));
        check.due("busy lines", 0, () -> x.total(5));
        for (int b = 0; b < 40; b++) {
            int number = b;
            check.due("block " + number, 0, () -> x.block(number));
        }
        check.due("the first box", 0, () -> x.box(1));
        check.due("the first message", 0, () -> x.shortNote(0, 0));
    }

    private static void boxQuotas() {
        promise(2, "IllegalArgument: quota is not 0 .. 500");
        Bank x = new Bank();
        outside("quota", 0, 500, ARGUMENT, x::box);
        check.due("none is opened by these", 0, () -> x.total(0));
        check.due("quota 0", 0, () -> x.box(0));
        check.due("quota 500", 1, () -> x.box(500));
        check.due("quota 1", 2, () -> x.box(1));
        check.due("quota 499", 3, () -> x.box(499));
        int[] quotas = {0, 500, 1, 499};
        for (int b = 0; b < 4; b++) {
            int box = b;
            check.due("the quota of " + box, quotas[box], () -> x.quota(box));
        }
    }

    private static void fourBoxes() {
        promise(2, "IllegalState: there are 4.");
        Bank x = Bank.withBoxes(9, 9, 9);
        check.due("the fourth", 3, () -> x.box(9));
        check.illegalState("a fifth", () -> x.box(9));
        check.illegalState("a fifth of quota 0", () -> x.box(0));
        check.illegalState("a fifth of quota 500", () -> x.box(500));
        check.due("boxes", 4, () -> x.total(0));
        check.noSuchElement("box 4", () -> x.quota(4));
        check.due("quota of box 3", 9, () -> x.quota(3));
    }

    private static void callKinds() {
        promise(3, "Someone begins to speak on a line: a message for a box (kind 0), its greeting 0 or 1 (1, 2), or its "
                + "preface (3).");
        for (int k = 0; k <= 3; k++) {
            int kind = k;
            Bank x = Bank.withBoxes(9, 9, 9, 9);
            check.due("kind " + kind, 0, () -> x.call(kind % 3, 3, kind));
            x.sample(kind % 3, LOUD);
            check.due("it is made", 0, () -> x.hang(kind % 3));
            for (int b = 0; b < 4; b++) {
                int box = b;
                for (int w = 0; w < 3; w++) {
                    int which = w;
                    int samples = box == 3 && which == kind - 1 ? 8 : 0;
                    check.due("length " + which + " of " + box, samples, () -> x.length(box, which));
                }
                check.due("message of " + box, box == 3 && kind == 0 ? 0 : BOUNDS, () -> x.next(box, 0, 0));
            }
        }
    }

    private static void callArguments() {
        promise(3, "NoSuchElement; IllegalArgument: there is no such line or kind");
        Bank x = Bank.withBoxes(9, 9);
        outside("line", 0, 2, ARGUMENT, line -> x.call(line, 0, 0));
        outside("kind", 0, 3, ARGUMENT, kind -> x.call(0, 0, kind));
        outside("box", 0, 1, NO_ELEMENT, box -> x.call(0, box, 0));
        check.due("no line is busy by these", 0, () -> x.total(5));
        check.due("the first line, the first kind, the last box", 0, () -> x.call(0, 1, 0));
        check.due("the last line, the last kind, the first box", 0, () -> x.call(2, 0, 3));
        check.due("these are busy", 5, () -> x.total(5));
        x.box(9);
        check.due("a box that was opened since", 0, () -> x.call(1, 2, 0));
    }

    private static void callOnBusyLine() {
        promise(3, "IllegalState: the line is busy");
        for (int k = 0; k <= 3; k++) {
            int kind = k;
            Bank x = Bank.withBoxes(9, 9);
            x.call(1, 0, kind);
            x.samples(1, Bank.times(4, LOUD));
            for (int again = 0; again <= 3; again++) {
                int other = again;
                check.illegalState("kind " + kind + ", then " + other, () -> x.call(1, 1, other));
            }
            x.samples(1, Bank.times(5, LOUD));
            check.due("what is spoken goes on", 0, () -> x.hang(1));
            check.due("its samples", 16, () -> kind == 0 ? x.duration(0) : x.length(0, kind - 1));
            check.due("the line is free", 0, () -> x.call(1, 1, kind));
        }
    }

    private static void callWithSixteen() {
        promise(3, "or, for a message, there are 16, with those that are being spoken.");
        Bank full = withMessages(15);
        check.due("15 are there", 0, () -> full.call(0, 0, 0));
        check.illegalState("15, and one is being spoken", () -> full.call(1, 1, 0));
        full.sample(0, LOUD);
        full.hang(0);
        check.illegalState("16", () -> full.call(0, 1, 0));
        for (int kind = 1; kind <= 3; kind++) {
            int other = kind;
            check.due("but kind " + other, 0, () -> full.call(other - 1, 0, other));
        }
        full.hang(0);
        full.erase(0);
        check.due("15, and greetings are being spoken", 0, () -> full.call(0, 1, 0));
        Bank x = withMessages(13);
        for (int l = 0; l < 3; l++) {
            int line = l;
            check.due("13, and " + line + " are being spoken", 0, () -> x.call(line, line % 2, 0));
        }
        check.illegalState("13, and 3 are being spoken", () -> x.forward(0, 0));
        check.due("nothing was said", -1, () -> x.hang(2));
        check.due("15 with those that are being spoken", 0, () -> x.call(2, 1, 0));
        x.sample(2, LOUD);
        check.due("a message is made", 13, () -> x.hang(2));
        check.illegalState("14, and 2 are being spoken", () -> x.call(2, 1, 0));
        x.erase(13);
        check.due("13, and 2 are being spoken", 0, () -> x.call(2, 1, 0));
        x.hang(2);
        x.frame(0, LOUD);
        x.hang(0);
        x.forward(0, 0);
        check.illegalState("15, and one is being spoken, by forwarding", () -> x.call(0, 0, 0));
    }

    private static void sampleBeyond() {
        promise(4, "(what is beyond -32768 .. 32767 is taken as the nearer one of these)");
        // Here the guess is 30182, and one more than 32767 would be told otherwise.
        for (int beyond : new int[] {32767, 32768, 40000, 65536, MAX}) {
            check.due("taken as 32767: " + beyond, 32509, () -> lastSound(Bank.times(15, 32767, 30098, beyond)));
        }
        // Here the guess is -32768, and one less than that would have a sign.
        for (int beyond : new int[] {-32768, -32769, -40000, -65536, MIN}) {
            check.due("taken as -32768: " + beyond, -32510, () -> lastSound(Bank.times(14, -32768, beyond)));
        }
        for (int beyond : new int[] {32768, MAX, -32769, MIN}) {
            int sound = beyond > 0 ? 30 : -30;
            check.due("the first sample " + beyond, sound, () -> lastSound(beyond));
            check.due("is no quiet one", 3, () -> {
                Bank x = Bank.withBoxes(9);
                x.call(0, 0, 0);
                x.frames(0, beyond, 3);
                return x.used(0);
            });
        }
    }

    private static int lastSound(int... spoken) {
        Bank x = Bank.withBoxes(500);
        x.call(0, 0, 0);
        x.samples(0, spoken);
        x.hang(0);
        return x.play(0, spoken.length - 1);
    }

    private static void sampleEnded() {
        promise(4, "true when the recording has ended, by it or before.");
        Bank x = Bank.withBoxes(1);
        x.call(0, 0, 0);
        for (int i = 0; i < 15; i++) {
            check.due("sample " + i, false, () -> x.sample(0, LOUD));
        }
        check.due("by it", true, () -> x.sample(0, LOUD));
        for (int i = 17; i < 34; i++) {
            check.due("before, sample " + i, true, () -> x.sample(0, QUIET));
        }
        x.call(1, 0, 0);
        check.due("seven on another line", false, () -> x.samples(1, Bank.times(7, LOUD)));
        check.due("the eighth", true, () -> x.sample(1, LOUD));
        check.due("and behind it", true, () -> x.sample(1, LOUD));
        x.hang(1);
        x.call(1, 0, 0);
        check.due("not yet on the next call", false, () -> x.sample(1, LOUD));
    }

    private static void sampleArguments() {
        promise(4, "IllegalArgument: there is no such line; IllegalState: it is not busy.");
        Bank x = Bank.withBoxes(9);
        outside("line", 0, 2, ARGUMENT, line -> x.sample(line, 0));
        for (int l = 0; l < 3; l++) {
            int line = l;
            check.illegalState("not busy " + line, () -> x.sample(line, 0));
            x.call(line, 0, 0);
            check.due("busy " + line, false, () -> x.sample(line, 0));
        }
        for (int l = 0; l < 3; l++) {
            int line = l;
            x.hang(line);
            check.illegalState("hung up " + line, () -> x.sample(line, 0));
        }
        outside("line, when all have been busy", 0, 2, ARGUMENT, line -> x.sample(line, 0));
    }

    private static void hangInAFrame() {
        promise(5, "Samples that make no whole frame are a frame with 0s behind them");
        for (int n = 1; n <= 17; n++) {
            int samples = n;
            Bank x = Bank.withBoxes(9);
            x.call(0, 0, 0);
            x.samples(0, Bank.times(samples, LOUD));
            check.due(samples + " samples", 0, () -> x.hang(0));
            check.due(samples + " samples last", (samples + 7) / 8 * 8, () -> x.duration(0));
            check.due(samples + " samples cost", (samples + 7) / 8, () -> x.used(0));
        }
        Bank x = Bank.withBoxes(9);
        x.call(0, 0, 0);
        x.sample(0, 90);
        x.hang(0);
        check.due("90 and seven 0s", "[30, -5, -1, 3, 0, 3, 1, -1]", () -> x.heard(0, 0, 8));
        x.call(0, 0, 0);
        x.samples(0, 90, 0, 0, 0, 0, 0, 0, 0);
        x.hang(0);
        check.due("when they are spoken", "[30, -5, -1, 3, 0, 3, 1, -1]", () -> x.heard(1, 0, 8));
        x.call(0, 0, 0);
        x.samples(0, Bank.times(7, 1000));
        x.hang(0);
        x.call(0, 0, 0);
        x.sample(0, 1000);
        x.hang(0);
        check.due("no sample of the recording before", 8, () -> x.duration(3));
        check.due("but 0s", "[30, -5, -1, 3, 0, 3, 1, -1]", () -> x.heard(3, 0, 8));
    }

    private static void hangInAGap() {
        promise(5, "Samples that make no whole frame are a frame with 0s behind them");
        int[] rest = {48, 49, -48, -49};
        int[] costs = {1, 3, 1, 3};
        for (int i = 0; i < rest.length; i++) {
            int value = rest[i];
            Bank x = Bank.withBoxes(9);
            x.call(0, 0, 0);
            x.frames(0, QUIET, 2);
            x.sample(0, value);
            x.hang(0);
            check.due("two quiet frames and " + value, costs[i], () -> x.used(0));
            check.due("last", 24, () -> x.duration(0));
        }
        Bank x = Bank.withBoxes(9);
        x.call(0, 0, 0);
        x.frames(0, QUIET, 4);
        x.sample(0, QUIET);
        x.hang(0);
        check.due("a gap of four and one", 2, () -> x.used(0));
        x.call(0, 0, 0);
        x.sample(0, QUIET);
        check.due("one quiet sample is recorded", 1, () -> x.hang(0));
        check.due("as a coded frame", "[2, 0, 2, 0, 2, 0, 2, 0]", () -> x.heard(1, 0, 8));
    }

    private static void hangDropsWhatDoesNotFit() {
        promise(5, "(if it does not fit, it is dropped)");
        Bank x = Bank.withBoxes(2);
        x.call(0, 0, 0);
        x.samples(0, Bank.times(17, LOUD));
        check.due("17 samples into a quota of 2", 0, () -> x.hang(0));
        check.due("16 stand", 16, () -> x.duration(0));
        x.call(0, 0, 0);
        x.sample(0, LOUD);
        check.due("one sample, and no room", -1, () -> x.hang(0));
        x.erase(0);
        x.call(0, 0, 0);
        x.frames(0, QUIET, 8);
        x.sample(0, QUIET);
        check.due("a gap of 8 and one sample", 1, () -> x.hang(0));
        check.due("8 stand", 64, () -> x.duration(1));
        x.erase(1);
        x.call(0, 0, 0);
        x.frames(0, QUIET, 7);
        x.sample(0, QUIET);
        check.due("a gap of 7 and one sample", 2, () -> x.hang(0));
        check.due("fits", 64, () -> x.duration(2));
        x.erase(2);
        x.call(0, 0, 0);
        x.frames(0, LOUD, 3);
        x.samples(0, Bank.times(7, LOUD));
        check.due("samples behind the end", 3, () -> x.hang(0));
        check.due("make no frame", 16, () -> x.duration(3));
        Bank full = Bank.withoutFreeBlocks();
        full.call(0, 2, 1);
        full.sample(0, LOUD);
        check.due("no block is free", -1, () -> full.hang(0));
        check.due("the greeting of before", 8, () -> full.length(2, 0));
        check.due("line 0 is not busy", 0, () -> full.total(5));
    }

    private static void hangNothing() {
        promise(5, "When nothing was recorded: NONE, and all else stays.");
        Bank x = Bank.withBoxes(1, 9);
        for (int kind = 1; kind <= 3; kind++) {
            x.note(0, 0, kind, LOUD, kind);
        }
        for (int k = 0; k <= 3; k++) {
            int kind = k;
            x.call(1, 0, kind);
            check.due("no sample, kind " + kind, -1, () -> x.hang(1));
        }
        x.note(0, 0, 0, LOUD, 1);
        x.call(2, 0, 0);
        check.due("what does not fit", true, () -> x.frame(2, LOUD));
        check.due("is nothing", -1, () -> x.hang(2));
        check.due("the lines are not busy any more", 0, () -> x.total(5));
        check.due("greetings and preface stay", "[8, 16, 24]",
                () -> Check.row(x.length(0, 0), x.length(0, 1), x.length(0, 2)));
        check.due("their blocks", "1 2 3 1", x::blocks);
        check.due("recordings", 4, () -> x.total(2));
        check.due("the message", 1, () -> x.total(1));
        check.due("used", 1, () -> x.used(0));
        check.due("the next number", 1, () -> x.shortNote(1, 0));
    }

    private static void hangMessage() {
        promise(5, "A message is made, in the list of new ones: its number.");
        Bank x = Bank.withBoxes(9, 9);
        x.call(0, 1, 0);
        x.frame(0, LOUD);
        check.due("none yet", 0, () -> x.total(1));
        check.outOfBounds("not in the list yet", () -> x.next(1, 0, 0));
        check.noSuchElement("nor by its number", () -> x.duration(0));
        check.due("made", 0, () -> x.hang(0));
        check.due("one", 1, () -> x.total(1));
        check.due("in the list of new ones", 0, () -> x.next(1, 0, 0));
        check.outOfBounds("not in another list", () -> x.next(1, 1, 0));
        check.outOfBounds("nor in the third", () -> x.next(1, 2, 0));
        check.outOfBounds("nor in another box", () -> x.next(0, 0, 0));
        x.note(0, 1, 3, LOUD, 1);
        check.due("with a preface in the box", 1, () -> x.shortNote(1, 0));
        check.due("it has none", 8, () -> x.duration(1));
    }

    private static void hangGreeting() {
        promise(5, "A greeting or preface takes the place of the one that there was: 0.");
        Bank x = Bank.withBoxes(9, 9);
        x.shortNote(0, 0);
        x.shortNote(0, 0);
        for (int k = 1; k <= 3; k++) {
            int kind = k;
            check.due("the first of kind " + kind, 0, () -> x.note(0, 1, kind, 1000, 5));
            int free = x.total(3);
            x.call(0, 1, kind);
            x.frame(0, -1000);
            check.due("a block for the second", free - 1, () -> x.total(3));
            check.due("the first is there while it is spoken", 40, () -> x.length(1, kind - 1));
            check.due("the second takes the place", 0, () -> x.hang(0));
            check.due("its length", 8, () -> x.length(1, kind - 1));
            check.due("its sound", -30, () -> x.greeting(1, kind - 1, 0));
            check.due("the two blocks of the first are free", free + 1, () -> x.total(3));
            check.due("recordings", 2 + kind, () -> x.total(2));
            check.due("the other box has none", 0, () -> x.length(0, kind - 1));
        }
        check.due("no message is made", 2, () -> x.total(1));
    }

    private static void hangArguments() {
        promise(5, "IllegalArgument: there is no such line; IllegalState: it is not busy.");
        Bank x = Bank.withBoxes(9);
        outside("line", 0, 2, ARGUMENT, x::hang);
        for (int l = 0; l < 3; l++) {
            int line = l;
            check.illegalState("not busy " + line, () -> x.hang(line));
            x.call(line, 0, 0);
        }
        for (int l = 0; l < 3; l++) {
            int line = l;
            check.due("busy " + line, -1, () -> x.hang(line));
            check.illegalState("hung up " + line, () -> x.hang(line));
        }
    }

    private static void nextOfAList() {
        promise(6, "The number of the k-th message, from 0, of a box's list, by rising numbers.");
        Bank x = Bank.withBoxes(500, 500);
        for (int i = 0; i < 16; i++) {
            x.shortNote(0, 0);
        }
        check.due("16 of a list", "[0, 1, 2, 3, 4, 5, 6, 7, 8, 9, 10, 11, 12, 13, 14, 15]", () -> list(x, 0, 0, 16));
        check.outOfBounds("the 16th from 0", () -> x.next(0, 0, 16));
        for (int number : new int[] {9, 4, 15, 0}) {
            x.mark(number, 2);
        }
        check.due("by numbers, not by marking", "[0, 4, 9, 15]", () -> list(x, 0, 2, 4));
        check.due("those that are left", "[1, 2, 3, 5, 6, 7, 8, 10, 11, 12, 13, 14]", () -> list(x, 0, 0, 12));
        x.erase(4);
        check.due("without the one that was erased", "[0, 9, 15]", () -> list(x, 0, 2, 3));
        x.forward(9, 1);
        x.mark(16, 2);
        check.due("each box has its own", "[16]", () -> list(x, 1, 2, 1));
        check.due("the other one's", "[0, 9, 15]", () -> list(x, 0, 2, 3));
        x.mark(9, 0);
        check.due("back among the others", "[1, 2, 3, 5, 6, 7, 8, 9, 10, 11, 12, 13, 14]", () -> list(x, 0, 0, 13));
    }

    private static void nextArguments() {
        promise(6, "NoSuchElement; IllegalArgument: there is no such list; IndexOutOfBounds: it has no such one.");
        Bank x = Bank.withBoxes(500, 500);
        outside("k of an empty list", 0, -1, BOUNDS, k -> x.next(0, 0, k));
        x.shortNote(0, 0);
        x.shortNote(0, 0);
        x.shortNote(0, 0);
        x.mark(1, 1);
        x.forward(0, 1);
        outside("k of two", 0, 1, BOUNDS, k -> x.next(0, 0, k));
        outside("k of one", 0, 0, BOUNDS, k -> x.next(0, 1, k));
        outside("k of none", 0, -1, BOUNDS, k -> x.next(0, 2, k));
        outside("list", 0, 2, ARGUMENT, list -> x.next(0, list, 0));
        outside("box", 0, 1, NO_ELEMENT, box -> x.next(box, 0, 0));
        check.due("the last of two", 2, () -> x.next(0, 0, 1));
        check.due("the last of one", 1, () -> x.next(0, 1, 0));
        check.due("the last box", 3, () -> x.next(1, 0, 0));
    }

    private static void markLists() {
        promise(7, "A message goes to another list of its box (or the same): the one before.");
        Bank x = Bank.withBoxes(9, 9);
        x.shortNote(1, 0);
        int before = 0;
        for (int to : new int[] {0, 1, 1, 0, 2, 2, 1, 2, 0}) {
            int due = before;
            check.due("from " + before + " to " + to, due, () -> x.mark(0, to));
            check.due("it is there", 0, () -> x.next(1, to, 0));
            check.outOfBounds("once", () -> x.next(1, to, 1));
            if (to != before) {
                check.outOfBounds("and not where it was", () -> x.next(1, due, 0));
            }
            before = to;
        }
        x.mark(0, 2);
        x.forward(0, 1);
        check.due("a forwarded one is in its own", 0, () -> x.mark(1, 1));
        check.due("the first is where it was", 2, () -> x.mark(0, 2));
    }

    private static void markArguments() {
        promise(7, "NoSuchElement; IllegalArgument: there is no such list.");
        Bank x = Bank.withBoxes(9);
        outside("message of none", 0, -1, NO_ELEMENT, number -> x.mark(number, 0));
        x.shortNote(0, 0);
        x.shortNote(0, 0);
        x.mark(0, 1);
        outside("list", 0, 2, ARGUMENT, list -> x.mark(0, list));
        outside("message", 0, 1, NO_ELEMENT, number -> x.mark(number, 0));
        check.due("it stays", 1, () -> x.mark(0, 0));
        x.erase(0);
        check.noSuchElement("erased", () -> x.mark(0, 0));
        check.due("the last", 0, () -> x.mark(1, 2));
    }

    private static void eraseBlocks() {
        promise(8, "A message is not there any more: how many blocks became free by that.");
        Bank x = Bank.withBoxes(500, 500);
        int[] frames = {1, 4, 5, 8, 9};
        int[] blocks = {1, 1, 2, 2, 3};
        for (int i = 0; i < frames.length; i++) {
            int number = x.note(0, 0, 0, LOUD, frames[i]);
            check.due(frames[i] + " frames", blocks[i], () -> x.erase(number));
            check.due("all are free", 40, () -> x.total(3));
        }
        int gap = x.note(0, 0, 0, QUIET, 9);
        check.due("a gap", 1, () -> x.erase(gap));
        x.note(0, 0, 3, LOUD, 5);
        int first = x.note(0, 0, 0, LOUD, 1);
        int second = x.forward(first, 0);
        int third = x.forward(second, 1);
        check.due("others have the recording", 0, () -> x.erase(first));
        check.due("another has the recording, others the preface", 0, () -> x.erase(second));
        check.due("the box has the preface", 1, () -> x.erase(third));
        int fourth = x.note(0, 0, 0, LOUD, 1);
        int fifth = x.forward(fourth, 1);
        x.erase(fourth);
        check.due("another preface", 0, () -> x.shortNote(0, 3));
        check.due("nobody has the recording nor the preface", 3, () -> x.erase(fifth));
        check.due("the other preface is there", 39, () -> x.total(3));
    }

    private static void eraseArguments() {
        promise(8, "NoSuchElement.");
        Bank x = Bank.withBoxes(9);
        outside("message of none", 0, -1, NO_ELEMENT, x::erase);
        x.call(1, 0, 0);
        x.frame(1, LOUD);
        check.noSuchElement("one that is being spoken", () -> x.erase(0));
        x.hang(1);
        x.shortNote(0, 0);
        outside("message", 0, 1, NO_ELEMENT, x::erase);
        check.due("the last", 1, () -> x.erase(1));
        check.noSuchElement("erased", () -> x.erase(1));
        check.due("the first", 1, () -> x.erase(0));
        check.noSuchElement("erased too", () -> x.erase(0));
        check.outOfBounds("not in its list", () -> x.next(0, 0, 0));
        check.noSuchElement("not heard", () -> x.play(0, 0));
        check.noSuchElement("not forwarded", () -> x.forward(0, 0));
        check.due("none", 0, () -> x.total(1));
        check.due("used", 0, () -> x.used(0));
    }

    private static void forwardPreface() {
        promise(9, "A new message in a box, with the same recording, and as its preface that of the box where the message "
                + "is, if there is one: its number.");
        Bank x = Bank.withBoxes(500, 500, 500);
        x.note(0, 0, 0, 1000, 1);
        x.note(0, 1, 3, -1000, 2);
        check.due("no preface where it is", 1, () -> x.forward(0, 1));
        check.due("none, though there is one where it goes", 8, () -> x.duration(1));
        check.due("it is new", 1, () -> x.next(1, 0, 0));
        check.due("the same recording", "[30, 105]", () -> x.heard(1, 0, 2));
        check.due("a preface where it is", 2, () -> x.forward(1, 2));
        check.due("with it", 24, () -> x.duration(2));
        check.due("its sound", "[-30, -105]", () -> x.heard(2, 0, 2));
        check.due("none where that is", 3, () -> x.forward(2, 0));
        check.due("none, though the message has one", 8, () -> x.duration(3));
        check.due("one where it is", 4, () -> x.forward(1, 1));
        check.due("in the same box", 24, () -> x.duration(4));
        x.note(0, 2, 3, 90, 1);
        check.due("another for one that has one", 5, () -> x.forward(2, 0));
        check.due("one preface, not two", 16, () -> x.duration(5));
        check.due("the first", 8, () -> x.duration(0));
        x.mark(4, 2);
        x.forward(4, 1);
        check.due("new, whatever list the other is in", "[1, 6]", () -> list(x, 1, 0, 2));
        check.due("one recording and two prefaces", 3, () -> x.total(2));
        check.due("no blocks for it", 37, () -> x.total(3));
    }

    private static void forwardWithSixteen() {
        promise(9, "IllegalState: there are 16, with those that are being spoken");
        Bank x = withMessages(14);
        check.due("14", 14, () -> x.forward(0, 0));
        x.call(0, 0, 0);
        check.illegalState("15, and one is being spoken", () -> x.forward(0, 0));
        x.call(1, 0, 1);
        x.hang(0);
        check.due("15, and a greeting is being spoken", 15, () -> x.forward(0, 1));
        check.illegalState("16", () -> x.forward(0, 0));
        x.erase(3);
        x.erase(4);
        x.call(0, 0, 0);
        check.due("14, and one is being spoken", 16, () -> x.forward(0, 0));
        check.illegalState("15, and one is being spoken", () -> x.forward(0, 0));
        x.erase(5);
        x.call(2, 1, 0);
        check.illegalState("14, and two are being spoken", () -> x.forward(0, 0));
        x.hang(0);
        check.due("14, and one", 17, () -> x.forward(0, 0));
    }

    private static void forwardQuota() {
        promise(9, "or the box would use more than its quota.");
        Bank x = Bank.withBoxes(500, 0, 4, 5);
        x.note(0, 0, 0, LOUD, 5);
        check.illegalState("5 into 0", () -> x.forward(0, 1));
        check.illegalState("5 into 4", () -> x.forward(0, 2));
        check.due("5 into 5", 1, () -> x.forward(0, 3));
        check.illegalState("5 more", () -> x.forward(0, 3));
        x.erase(1);
        x.call(0, 3, 0);
        check.due("5 into 5, nothing is said yet", 2, () -> x.forward(0, 3));
        x.erase(2);
        x.frame(0, LOUD);
        check.illegalState("5 into 5, and 1 is being spoken", () -> x.forward(0, 3));
        x.hang(0);
        check.illegalState("5 into 5, and 1 is there", () -> x.forward(0, 3));
        x.erase(3);
        x.call(0, 3, 1);
        x.frame(0, LOUD);
        check.due("a greeting uses nothing", 4, () -> x.forward(0, 3));
        x.erase(4);
        x.note(1, 0, 0, LOUD, 3);
        x.note(1, 0, 3, LOUD, 1);
        check.due("3 and a preface of 1 into 4", 6, () -> x.forward(5, 2));
        check.illegalState("5 and a preface of 1 into 5", () -> x.forward(0, 3));
        x.note(1, 0, 3, LOUD, 2);
        check.due("3 and a preface of 2 into 5", 7, () -> x.forward(5, 3));
        x.erase(6);
        check.illegalState("3 and a preface of 2 into 4", () -> x.forward(5, 2));
        check.due("which uses nothing then", 0, () -> x.used(2));
        x.note(1, 0, 0, QUIET, 9);
        x.note(1, 0, 3, QUIET, 4);
        check.due("a gap of 9 and one of 4 into 4", 9, () -> x.forward(8, 2));
        check.due("used", 4, () -> x.used(2));
    }

    private static void forwardArguments() {
        promise(9, "NoSuchElement;");
        Bank x = Bank.withBoxes(9, 9);
        outside("message of none", 0, -1, NO_ELEMENT, number -> x.forward(number, 0));
        x.shortNote(0, 0);
        outside("message", 0, 0, NO_ELEMENT, number -> x.forward(number, 0));
        outside("box", 0, 1, NO_ELEMENT, box -> x.forward(0, box));
        check.due("none is made by these", 1, () -> x.total(1));
        check.due("into the last box", 1, () -> x.forward(0, 1));
        check.due("the last message into the first box", 2, () -> x.forward(1, 0));
        x.erase(0);
        check.noSuchElement("erased", () -> x.forward(0, 1));
    }

    private static void duration() {
        promise(10, "How many samples a message has, with its preface.");
        Bank x = Bank.withBoxes(500);
        outside("message of none", 0, -1, NO_ELEMENT, x::duration);
        x.call(0, 0, 0);
        x.sample(0, LOUD);
        x.hang(0);
        check.due("the least", 8, () -> x.duration(0));
        x.note(0, 0, 0, QUIET, 13);
        check.due("a gap of 13", 104, () -> x.duration(1));
        x.note(0, 0, 3, QUIET, 3);
        check.due("without a preface", 8, () -> x.duration(0));
        x.forward(0, 0);
        check.due("with a preface of 3", 32, () -> x.duration(2));
        x.note(0, 0, 3, LOUD, 1);
        check.due("with the same, though the box has another", 32, () -> x.duration(2));
        x.forward(1, 0);
        check.due("with a preface of 1", 112, () -> x.duration(3));
        outside("message", 0, 3, NO_ELEMENT, x::duration);
        x.erase(1);
        check.noSuchElement("erased", () -> x.duration(1));
        check.due("shared with it", 112, () -> x.duration(3));
    }

    private static void play() {
        promise(11, "How the i-th sample of a message, from 0, sounds; the preface comes first. NoSuchElement; "
                + "IndexOutOfBounds: there is none.");
        Bank x = Bank.withBoxes(500);
        x.call(0, 0, 0);
        x.frames(0, 1000, 1);
        x.frames(0, QUIET, 3);
        x.frames(0, 1000, 1);
        x.hang(0);
        String loud = "30, 105, 278, 661, 1049, 999, 1044, 1003";
        String zeros = "0, 0, 0, 0, 0, 0, 0, 0, ";
        check.due("all samples", "[" + loud + ", " + zeros + zeros + zeros + loud + "]", () -> x.heard(0, 0, 40));
        outside("sample", 0, 39, BOUNDS, i -> x.play(0, i));
        x.note(0, 0, 3, -1000, 1);
        x.forward(0, 0);
        check.due("the preface, then the message", "[-1049, -999, -1044, -1003, 30, 105, 278, 661]",
                () -> x.heard(1, 4, 12));
        check.due("the last", 1003, () -> x.play(1, 47));
        outside("sample with the preface", 0, 47, BOUNDS, i -> x.play(1, i));
        outside("message", 0, 1, NO_ELEMENT, number -> x.play(number, 0));
        x.erase(0);
        check.noSuchElement("erased", () -> x.play(0, 0));
        check.due("shared with it", 30, () -> x.play(1, 40));
    }

    private static void length() {
        promise(12, "How many samples a greeting (which = 0, 1) or the preface (2) of a box has; 0 for none. "
                + "NoSuchElement; IllegalArgument: another which.");
        Bank x = Bank.withBoxes(0, 0);
        for (int which = 0; which < 3; which++) {
            int own = which;
            check.due("none " + own, 0, () -> x.length(1, own));
            x.call(0, 1, which + 1);
            x.frames(0, LOUD, which);
            x.sample(0, LOUD);
            check.due("none while it is spoken " + own, 0, () -> x.length(1, own));
            x.hang(0);
            check.due("length " + own, 8 * own + 8, () -> x.length(1, own));
            check.due("of the other box " + own, 0, () -> x.length(0, own));
        }
        x.note(0, 0, 1, QUIET, 12);
        check.due("a gap", 96, () -> x.length(0, 0));
        outside("which", 0, 2, ARGUMENT, which -> x.length(1, which));
        outside("box", 0, 1, NO_ELEMENT, box -> x.length(box, 0));
    }

    private static void greeting() {
        promise(13, "How its i-th sample sounds. NoSuchElement; IllegalArgument: another which; IndexOutOfBounds: there "
                + "is none.");
        Bank x = Bank.withBoxes(0, 0);
        for (int w = 0; w < 3; w++) {
            int which = w;
            outside("sample of none, which = " + which, 0, -1, BOUNDS, i -> x.greeting(1, which, i));
            x.note(0, 1, which + 1, which == 1 ? -1000 : 1000, which + 1);
            check.due("the first, which = " + which, which == 1 ? -30 : 30, () -> x.greeting(1, which, 0));
            int[] last = {1003, -1001, 1001};
            check.due("the last, which = " + which, last[which], () -> x.greeting(1, which, 8 * which + 7));
            outside("sample, which = " + which, 0, 8 * which + 7, BOUNDS, i -> x.greeting(1, which, i));
            check.outOfBounds("of the other box", () -> x.greeting(0, which, 0));
        }
        outside("which", 0, 2, ARGUMENT, which -> x.greeting(1, which, 0));
        outside("box", 0, 1, NO_ELEMENT, box -> x.greeting(box, 0, 0));
        x.note(0, 0, 3, 48, 3);
        check.due("the first of a gap", 0, () -> x.greeting(0, 2, 0));
        check.due("the last of a gap", 0, () -> x.greeting(0, 2, 23));
        check.outOfBounds("behind a gap", () -> x.greeting(0, 2, 24));
    }

    private static void usedAndQuota() {
        promise(14, "How much a box uses. NoSuchElement.");
        Bank x = Bank.withBoxes(0, 500);
        outside("box", 0, 1, NO_ELEMENT, x::used);
        check.due("nothing", 0, () -> x.used(0));
        x.note(0, 1, 0, LOUD, 1);
        check.due("one", 1, () -> x.used(1));
        check.due("the other box", 0, () -> x.used(0));
        x.erase(0);
        check.due("nothing again", 0, () -> x.used(1));
        promise(15, "How much a box uses at most. NoSuchElement.");
        outside("box", 0, 1, NO_ELEMENT, x::quota);
        check.due("the least", 0, () -> x.quota(0));
        check.due("the greatest", 500, () -> x.quota(1));
        x.note(0, 1, 0, LOUD, 2);
        check.due("whatever is used", 500, () -> x.quota(1));
    }

    /** Blocks 0, 2 and 4 are free, 1 and 3 have messages, 5 .. 7 a message of 4, 4 and 2 entries. */
    private static Bank withHoles() {
        Bank x = Bank.withBoxes(500, 500);
        for (int i = 0; i < 5; i++) {
            x.shortNote(0, 0);
        }
        x.note(0, 0, 0, 1000, 10);
        x.erase(0);
        x.erase(2);
        x.erase(4);
        return x;
    }

    private static void packMoves() {
        promise(16, "what is in the used block with the greatest number is moved to the free one with the least. How many "
                + "were moved.");
        Bank x = withHoles();
        check.due("three are free between others", "0 1 0 1 0 4 4 2", x::blocks);
        check.due("no time", 0, () -> x.pack(0));
        check.due("nothing was moved", "0 1 0 1 0 4 4 2", x::blocks);
        check.due("once", 1, () -> x.pack(1));
        check.due("7 to 0", "2 1 0 1 0 4 4", x::blocks);
        check.due("twice", 2, () -> x.pack(2));
        check.due("6 to 2, 5 to 4", "2 1 4 1 4", x::blocks);
        check.due("no more", 0, () -> x.pack(1));
        check.due("it sounds like before", "[30, 105, 278, 661, 1049, 999, 1044, 1003, 966, 1000]", () -> x.heard(5, 0, 10));
        check.due("its length", 80, () -> x.duration(5));
        check.due("used", 12, () -> x.used(0));
        check.due("a new block", 6, () -> x.shortNote(0, 0));
        check.due("is the least free", "2 1 4 1 4 1", x::blocks);
        check.due("all its blocks become free", 3, () -> x.erase(5));
        check.due("those of the others do not", "0 1 0 1 0 1", x::blocks);
        check.due("others move", 2, () -> x.pack(100));
        check.due("as few as need", "1 1 1", x::blocks);
    }

    private static void packAsLongAsLower() {
        promise(16, "Up to n times, as long as that is lower:");
        int[] moved = {0, 1, 2, 3, 3, 3};
        int[] times = {0, 1, 2, 3, 4, 100};
        for (int i = 0; i < times.length; i++) {
            int n = times[i];
            check.due("up to " + n, moved[i], () -> withHoles().pack(n));
        }
        Bank empty = new Bank();
        check.due("no block is used", 0, () -> empty.pack(100));
        Bank x = Bank.withBoxes(500);
        x.shortNote(0, 0);
        check.due("only block 0 is used", 0, () -> x.pack(100));
        x.shortNote(0, 0);
        check.due("the free one is higher", 0, () -> x.pack(100));
        x.erase(0);
        check.due("the free one is lower by 1", 1, () -> x.pack(100));
        check.due("block 1 to 0", "1", x::blocks);
        Bank full = Bank.withoutFreeBlocks();
        check.due("none is free", 0, () -> full.pack(100));
        full.call(0, 3, 3);
        full.erase(30);
        int free = full.leastFree(0);
        check.due("39 to the only free one", 1, () -> full.pack(100));
        check.due("it is used", 1, () -> full.block(free));
        check.due("39 is free", 0, () -> full.block(39));
        check.due("38 is the greatest", 38, () -> full.total(4));
        check.due("39 is taken again", false, () -> full.frame(0, LOUD));
        check.due("it is used", 39, () -> full.total(4));
    }

    private static void packWhatIsSpoken() {
        promise(16, "what is in the used block with the greatest number is moved to the free one with the least.");
        Bank x = Bank.withBoxes(500);
        x.shortNote(0, 0);
        x.call(0, 0, 0);
        x.frames(0, 1000, 3);
        x.frames(0, QUIET, 2);
        check.due("while it is spoken", "1 4 1", x::blocks);
        x.erase(0);
        check.due("one", 1, () -> x.pack(100));
        check.due("the second block to 0", "1 4", x::blocks);
        x.frame(0, QUIET);
        check.due("which a gap frees", "0 4", x::blocks);
        check.due("one more", 1, () -> x.pack(1));
        check.due("the first block to 0", "4", x::blocks);
        x.frame(0, 1000);
        x.hang(0);
        check.due("behind the gap", "[1001, 0, 30]", () -> Check.row(x.play(1, 23), x.play(1, 24), x.play(1, 48)));
        check.due("its length", 56, () -> x.duration(1));
        check.due("two blocks become free", 2, () -> x.erase(1));
        check.due("no block", "", x::blocks);
    }

    private static void packArguments() {
        promise(16, "IllegalArgument: n is not 0 .. 100.");
        Bank x = withHoles();
        outside("n", 0, 100, ARGUMENT, x::pack);
        check.due("nothing was moved by these", "0 1 0 1 0 4 4 2", x::blocks);
        check.due("0", 0, () -> x.pack(0));
        check.due("100", 3, () -> x.pack(100));
    }

    private static void block() {
        promise(17, "Of the block with a number: 0 when it is free; otherwise how many entries it has. IndexOutOfBounds: "
                + "there is none.");
        Bank x = Bank.withBoxes(500);
        outside("block", 0, 39, BOUNDS, x::block);
        check.due("the first", 0, () -> x.block(0));
        check.due("the last", 0, () -> x.block(39));
        x.call(0, 0, 0);
        check.due("nothing is said", 0, () -> x.block(0));
        for (int f = 1; f <= 4; f++) {
            int frames = f;
            x.frame(0, LOUD);
            check.due(frames + " frames", frames, () -> x.block(0));
        }
        x.frame(0, LOUD);
        check.due("five frames", 4, () -> x.block(0));
        check.due("the next", 1, () -> x.block(1));
        check.due("behind it", 0, () -> x.block(2));
        x.hang(0);
        x.erase(0);
        check.due("free again", 0, () -> x.block(0));
        x.note(0, 0, 0, QUIET, 20);
        check.due("a gap is one entry", 1, () -> x.block(0));
        Bank full = Bank.withoutFreeBlocks();
        check.due("the last, when all are used", 1, () -> full.block(39));
        outside("block, when all are used", 0, 39, BOUNDS, full::block);
    }

    private static void step() {
        promise(18, "Step i. IndexOutOfBounds: there is none.");
        Bank x = new Bank();
        outside("step", 0, 48, BOUNDS, x::step);
        check.due("the first", 16, () -> x.step(0));
        check.due("the last but one", 1880, () -> x.step(47));
        check.due("the last", 2069, () -> x.step(48));
    }

    private static void totals() {
        promise(19, "How many boxes there are (what = 0), messages (1)");
        Bank x = new Bank();
        for (int b = 0; b < 4; b++) {
            int boxes = b;
            check.due("boxes", boxes, () -> x.total(0));
            x.box(500);
        }
        check.due("four boxes", 4, () -> x.total(0));
        for (int m = 0; m < 16; m++) {
            int messages = m;
            check.due("messages", messages, () -> x.total(1));
            x.call(0, m % 4, 0);
            x.sample(0, LOUD);
            check.due("while one is being spoken", messages, () -> x.total(1));
            x.hang(0);
        }
        check.due("sixteen messages", 16, () -> x.total(1));
        x.mark(5, 2);
        check.due("in all lists", 16, () -> x.total(1));
        x.shortNote(0, 3);
        check.due("no prefaces", 16, () -> x.total(1));
        for (int m = 0; m < 16; m++) {
            x.erase(m);
        }
        check.due("none", 0, () -> x.total(1));
        check.due("four boxes still", 4, () -> x.total(0));
        promise(19, "lines that are busy (5), as bits.");
        for (int bits = 0; bits < 8; bits++) {
            Bank y = Bank.withBoxes(9);
            for (int line = 0; line < 3; line++) {
                if ((bits >> line & 1) == 1) {
                    y.call(line, 0, line + 1);
                }
            }
            check.due("bits", bits, () -> y.total(5));
        }
    }

    private static void totalOfRecordings() {
        promise(19, "recordings that somebody has (2)");
        Bank x = Bank.withBoxes(500, 500);
        check.due("none", 0, () -> x.total(2));
        x.shortNote(0, 0);
        check.due("a message's", 1, () -> x.total(2));
        for (int kind = 1; kind <= 3; kind++) {
            int own = kind;
            x.shortNote(0, kind);
            check.due("kind " + own, 1 + own, () -> x.total(2));
            x.shortNote(0, kind);
            check.due("another in its place", 1 + own, () -> x.total(2));
        }
        x.forward(0, 1);
        check.due("shared", 4, () -> x.total(2));
        x.erase(0);
        check.due("another message has it", 4, () -> x.total(2));
        x.shortNote(0, 3);
        check.due("a message has the preface", 5, () -> x.total(2));
        x.erase(1);
        check.due("nobody has the two", 3, () -> x.total(2));
        Bank full = Bank.withoutFreeBlocks();
        check.due("one in each block", 40, () -> full.total(2));
        nobodyHasWhatIsBeingSpoken();
    }

    private static void nobodyHasWhatIsBeingSpoken() {
        check.sentence("Terms", "nobody (message, greeting or preface of a box) has it");
        for (int k = 0; k <= 3; k++) {
            int kind = k;
            Bank x = Bank.withBoxes(9);
            x.shortNote(0, kind);
            x.call(1, 0, kind);
            x.frames(1, LOUD, 2);
            check.due("one of kind " + kind + ", and another is being spoken", 1, () -> x.total(2));
            check.due("whose block is used all the same", "1 2", x::blocks);
            x.hang(1);
            check.due("kind " + kind + " when it is hung up", kind == 0 ? 2 : 1, () -> x.total(2));
        }
    }

    private static void totalOfBlocks() {
        promise(19, "free blocks (3); the greatest number of a used block (4), NONE for none;");
        Bank x = Bank.withBoxes(500);
        check.due("all are free", 40, () -> x.total(3));
        check.due("none is used", -1, () -> x.total(4));
        x.call(0, 0, 0);
        check.due("nothing is said", -1, () -> x.total(4));
        x.frame(0, LOUD);
        check.due("block 0 is being spoken into", 0, () -> x.total(4));
        check.due("39 are free", 39, () -> x.total(3));
        x.frames(0, LOUD, 4);
        check.due("block 1", 1, () -> x.total(4));
        x.hang(0);
        x.shortNote(0, 0);
        check.due("block 2", 2, () -> x.total(4));
        x.erase(0);
        check.due("the others are free, but it is not", 2, () -> x.total(4));
        check.due("39", 39, () -> x.total(3));
        x.erase(1);
        check.due("none", -1, () -> x.total(4));
        check.due("all", 40, () -> x.total(3));
        Bank full = Bank.withoutFreeBlocks();
        check.due("no block is free", 0, () -> full.total(3));
        check.due("block 39", 39, () -> full.total(4));
    }

    private static void totalOfAnother() {
        promise(19, "NONE for another what.");
        Bank full = Bank.withoutFreeBlocks();
        outside("total", 0, 5, "-1", full::total);
        check.due("total 0", 4, () -> full.total(0));
        check.due("total 5", 0, () -> full.total(5));
        check.due("NONE", -1, () -> MessageBank.NONE);
    }
}
