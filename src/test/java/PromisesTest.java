/** Each promise by its number: ordinary inputs, the edges that the document names, and wrong inputs. */
public final class PromisesTest {
    private static final int MIN = Integer.MIN_VALUE;
    private static final int MAX = Integer.MAX_VALUE;
    private static final Check check = new Check("PromisesTest");

    public static void main(String[] args) {
        newObject();
        box();
        call();
        callWhenFull();
        sample();
        sampleCoding();
        sampleGaps();
        sampleQuota();
        sampleWithoutBlocks();
        hang();
        next();
        mark();
        erase();
        forward();
        duration();
        play();
        length();
        greeting();
        used();
        quota();
        pack();
        packWhileSpoken();
        block();
        step();
        total();
        check.end();
    }

    private static void newObject() {
        check.part("promise 1");
        Bank x = new Bank();
        int[] totals = {0, 0, 0, 40, -1, 0};
        for (int what = 0; what < totals.length; what++) {
            int w = what;
            check.due("total " + w, totals[w], () -> x.total(w));
        }
        for (int b = 0; b < 40; b++) {
            int n = b;
            check.due("block " + n, 0, () -> x.block(n));
        }
        check.noSuchElement("used 0", () -> x.used(0));
        check.noSuchElement("duration 0", () -> x.duration(0));
        Bank other = Bank.withBoxes(7);
        check.due("boxes of one object", 1, () -> other.total(0));
        check.due("boxes of another", 0, () -> x.total(0));
    }

    private static void box() {
        check.part("promise 2");
        Bank x = new Bank();
        check.illegalArgument("quota -1", () -> x.box(-1));
        check.illegalArgument("quota 501", () -> x.box(501));
        check.illegalArgument("quota least", () -> x.box(MIN));
        check.illegalArgument("quota greatest", () -> x.box(MAX));
        check.due("none opened by these", 0, () -> x.total(0));
        check.due("quota 0", 0, () -> x.box(0));
        check.due("quota 500", 1, () -> x.box(500));
        check.due("quota 7", 2, () -> x.box(7));
        check.due("the fourth", 3, () -> x.box(7));
        check.illegalState("a fifth", () -> x.box(7));
        check.illegalArgument("a fifth with a wrong quota", () -> x.box(501));
        check.due("four are there", 4, () -> x.total(0));
        check.due("quota of 1", 500, () -> x.quota(1));
    }

    private static void call() {
        check.part("promise 3");
        Bank x = Bank.withBoxes(9, 9);
        check.noSuchElement("box -1", () -> x.call(0, -1, 0));
        check.noSuchElement("box 2", () -> x.call(0, 2, 0));
        check.noSuchElement("box before line and kind", () -> x.call(3, MAX, 4));
        check.illegalArgument("line -1", () -> x.call(-1, 0, 0));
        check.illegalArgument("line 3", () -> x.call(3, 0, 0));
        check.illegalArgument("kind -1", () -> x.call(0, 0, -1));
        check.illegalArgument("kind 4", () -> x.call(0, 0, 4));
        check.due("no line is busy", 0, () -> x.total(5));
        check.due("a message", 0, () -> x.call(1, 0, 0));
        check.due("line 1 is busy", 2, () -> x.total(5));
        check.illegalState("a busy line", () -> x.call(1, 1, 3));
        check.illegalArgument("kind before busy", () -> x.call(1, 1, 4));
        check.noSuchElement("box before busy", () -> x.call(1, 2, 0));
        check.due("a greeting", 0, () -> x.call(0, 1, 2));
        check.due("a preface", 0, () -> x.call(2, 1, 3));
        check.due("all are busy", 7, () -> x.total(5));
        x.frame(0, 100);
        x.frame(2, 100);
        x.frame(2, 100);
        x.hang(0);
        x.hang(2);
        check.due("greeting 0", 0, () -> x.length(1, 0));
        check.due("greeting 1", 8, () -> x.length(1, 1));
        check.due("preface", 16, () -> x.length(1, 2));
        check.due("of the other box", 0, () -> x.length(0, 1));
        check.due("again on a line that was hung up", 0, () -> x.call(0, 0, 1));
    }

    private static void callWhenFull() {
        check.part("promise 3, 16 messages");
        Bank x = Bank.withBoxes(500, 500);
        for (int i = 0; i < 14; i++) {
            x.shortNote(i % 2, 0);
        }
        check.due("the fifteenth", 0, () -> x.call(0, 0, 0));
        check.due("the sixteenth", 0, () -> x.call(1, 1, 0));
        check.illegalState("a seventeenth", () -> x.call(2, 0, 0));
        check.illegalState("and none by forwarding", () -> x.forward(0, 0));
        check.due("a greeting", 0, () -> x.call(2, 0, 1));
        check.illegalState("a message on the busy line", () -> x.call(2, 0, 0));
        check.due("the greeting is dropped", -1, () -> x.hang(2));
        check.due("a message of nothing", -1, () -> x.hang(0));
        check.due("room for one", 0, () -> x.call(2, 0, 0));
        check.illegalState("but one", () -> x.call(0, 0, 0));
        check.due("erased", 1, () -> x.erase(3));
        check.due("room again", 0, () -> x.call(0, 0, 0));
    }

    private static void sample() {
        check.part("promise 4");
        Bank x = Bank.withBoxes(9);
        check.illegalArgument("line -1", () -> x.sample(-1, 0));
        check.illegalArgument("line 3", () -> x.sample(3, 0));
        check.illegalState("not busy", () -> x.sample(2, 0));
        x.call(0, 0, 0);
        check.illegalState("another line", () -> x.sample(1, 0));
        for (int i = 0; i < 7; i++) {
            check.due("sample " + i, false, () -> x.sample(0, 300));
        }
        check.due("no frame yet", 0, () -> x.used(0));
        check.due("no block yet", 40, () -> x.total(3));
        check.due("the eighth", false, () -> x.sample(0, 300));
        check.due("a frame", 1, () -> x.used(0));
        check.due("a block", 1, () -> x.block(0));
        x.hang(0);
        check.illegalState("hung up", () -> x.sample(0, 0));
    }

    private static void sampleCoding() {
        check.part("promise 4, coding");
        Bank x = Bank.withBoxes(500);
        x.call(0, 0, 0);
        int[] spoken = {0, 100, 300, -200, 1000, 5000, -5000, 40000};
        int[] sounds = {2, 32, 107, -66, 317, 1150, -653, 3225};
        for (int s : spoken) {
            x.sample(0, s);
        }
        x.hang(0);
        for (int i = 0; i < 8; i++) {
            int at = i;
            check.due("sound " + at, sounds[at], () -> x.play(0, at));
        }
        // Parts that are just reached: 16, 8 and 4 are told with d = 28, 2 is the change besides.
        x.call(0, 0, 0);
        x.sample(0, 28);
        x.sample(0, 30);
        x.hang(0);
        check.due("16 + 8 + 4 + 2", 30, () -> x.play(1, 0));
        check.due("d of 0 has no sign, step 8 is 40", 30 + 5, () -> x.play(1, 1));
        check.due("step 7 is 36, d is -35", 35 - 4 - 18 - 9, () -> x.play(1, 2));
        partsAndChangesOfTheIndex();
        goesOnFromFrameToFrame();
        indexStaysInBounds();
    }

    private static void partsAndChangesOfTheIndex() {
        Bank x = Bank.withBoxes(9);
        // 24: 16 and 8 are told, nothing is left for 4; the index grows by 6, to step 32.
        // 56: 16 and 8 of d = 30 are not reached by 32, but by 16 and 8: 3 is told, the index falls to 5.
        int[] spoken = {24, 56, 54, 57, 50, 50, 60, 60};
        int[] sounds = {26, 26 + 4 + 24, 54 + 3, 57 + 3, 60 - 2 - 5, 53 - 2, 51 + 2 + 9, 62 - 2};
        x.call(0, 0, 0);
        for (int s : spoken) {
            x.sample(0, s);
        }
        x.hang(0);
        for (int i = 0; i < 8; i++) {
            int at = i;
            check.due("parts at " + at, sounds[at], () -> x.play(0, at));
        }
    }

    private static void goesOnFromFrameToFrame() {
        Bank x = Bank.withBoxes(9);
        x.note(0, 0, 0, 1000, 2);
        x.note(0, 0, 0, 1000, 1);
        for (int i = 0; i < 8; i++) {
            int at = i;
            check.due("the second recording begins anew at " + at, x.play(0, at), () -> x.play(1, at));
        }
        check.due("the second frame does not begin anew", true, () -> x.play(0, 8) > 900 && x.play(0, 8) < 1100);
    }

    private static void indexStaysInBounds() {
        Bank x = Bank.withBoxes(90);
        x.call(0, 0, 0);
        for (int i = 0; i < 96; i++) {
            x.sample(0, i < 48 ? i % 2 * 65535 - 32768 : 0);
        }
        x.hang(0);
        Model model = new Model();
        model.box(90);
        model.call(0, 0, 0);
        for (int i = 0; i < 96; i++) {
            model.sample(0, i < 48 ? i % 2 * 65535 - 32768 : 0);
        }
        model.hang(0);
        for (int i = 0; i < 96; i++) {
            int at = i;
            check.due("loud, then silent, at " + at, model.play(0, at), () -> x.play(0, at));
        }
    }

    private static void sampleGaps() {
        check.part("promise 4, gaps");
        Bank x = Bank.withBoxes(500);
        x.call(0, 0, 0);
        x.frames(0, 500, 3);
        x.frame(0, 48);
        check.due("one quiet frame", 4, () -> x.block(0));
        x.frame(0, -48);
        check.due("two quiet frames", 1, () -> x.block(1));
        check.due("cost", 5, () -> x.used(0));
        x.frame(0, 0);
        check.due("a gap in the place of the first", 4, () -> x.block(0));
        check.due("the second is dropped, and its block free", 0, () -> x.block(1));
        check.due("cost of a gap of 3", 4, () -> x.used(0));
        x.frame(0, 1);
        check.due("cost of a gap of 4", 4, () -> x.used(0));
        x.frame(0, 1);
        check.due("cost of a gap of 5", 5, () -> x.used(0));
        x.frames(0, 1, 3);
        check.due("cost of a gap of 8", 5, () -> x.used(0));
        x.frame(0, 1);
        check.due("cost of a gap of 9", 6, () -> x.used(0));
        check.due("still one entry", 4, () -> x.block(0));
        x.frame(0, 500);
        check.due("an entry behind it", 1, () -> x.block(1));
        x.hang(0);
        check.due("duration", 8 * 13, () -> x.duration(0));
        check.due("before the gap", false, () -> x.play(0, 23) == 0);
        for (int i = 24; i < 96; i += 7) {
            int at = i;
            check.due("in the gap at " + at, 0, () -> x.play(0, at));
        }
        check.due("behind a gap the guess is 0", x.play(0, 0), () -> x.play(0, 96));
        check.due("and the index", x.play(0, 7), () -> x.play(0, 103));
        quietOrNot();
    }

    private static void quietOrNot() {
        Bank x = Bank.withBoxes(500);
        x.note(0, 0, 0, 49, 3);
        x.note(0, 0, 0, -49, 3);
        x.note(0, 0, 0, 48, 2);
        x.note(0, 0, 0, -48, 3);
        int[] cost = {3, 3, 2, 1};
        for (int i = 0; i < 4; i++) {
            int before = x.used(0);
            int number = i;
            x.erase(number);
            check.due("cost of " + number, before - cost[number], () -> x.used(0));
        }
        Bank y = Bank.withBoxes(500);
        y.call(0, 0, 0);
        y.frames(0, 0, 2);
        y.frame(0, 60);
        y.frames(0, 0, 2);
        check.due("runs of two are coded", 5, () -> y.used(0));
        y.hang(0);
        y.call(0, 0, 0);
        y.frames(0, 0, 3);
        check.due("a gap alone is an entry", 1, () -> y.block(2));
        y.hang(0);
        check.due("a gap alone lasts", 24, () -> y.duration(1));
        check.due("a gap alone sounds", 0, () -> y.play(1, 23));
        check.due("one loud sample makes a frame loud", 3, () -> {
            Bank z = Bank.withBoxes(500);
            z.call(0, 0, 0);
            for (int i = 0; i < 24; i++) {
                z.sample(0, i % 8 == 7 ? 49 : 0);
            }
            return z.used(0);
        });
    }

    private static void sampleQuota() {
        check.part("promise 4, quota");
        Bank x = Bank.withBoxes(2, 0);
        x.call(0, 0, 0);
        check.due("up to the quota", false, () -> x.frames(0, 300, 2));
        check.due("seven more", false, () -> {
            boolean ended = false;
            for (int i = 0; i < 7; i++) {
                ended |= x.sample(0, 300);
            }
            return ended;
        });
        check.due("the eighth", true, () -> x.sample(0, 300));
        check.due("and all behind it", true, () -> x.sample(0, 0));
        check.due("quiet ones too", true, () -> x.frame(0, 0));
        check.due("used", 2, () -> x.used(0));
        x.call(1, 0, 0);
        check.due("another line of the box", true, () -> x.frame(1, 0));
        x.call(2, 1, 1);
        check.due("a greeting has no quota", false, () -> x.frame(2, 300));
        check.due("the frame that did not fit is dropped", -1, () -> x.hang(1));
        x.hang(0);
        check.due("the rest stands", 16, () -> x.duration(0));
        x.hang(2);
        x.call(2, 1, 3);
        check.due("a preface has no quota", false, () -> x.frame(2, 300));
        gapAtTheQuota();
        endedIsEnded();
    }

    private static void endedIsEnded() {
        Bank x = Bank.withBoxes(3);
        x.note(0, 0, 0, 300, 2);
        x.call(0, 0, 0);
        x.frame(0, 300);
        check.due("no room", true, () -> x.frame(0, 300));
        x.erase(0);
        check.due("used", 1, () -> x.used(0));
        check.due("room again, but it has ended", true, () -> x.frame(0, 300));
        x.sample(0, 300);
        check.due("its number", 1, () -> x.hang(0));
        check.due("no more is taken", 8, () -> x.duration(1));
        x.call(0, 0, 0);
        check.due("the next one on the line begins anew", false, () -> x.frames(0, 300, 2));
    }

    private static void gapAtTheQuota() {
        Bank y = Bank.withBoxes(2);
        y.call(0, 0, 0);
        check.due("a gap of 8 fits in 2", false, () -> y.frames(0, 0, 8));
        check.due("a gap of 9 does not", true, () -> y.frame(0, 0));
        y.hang(0);
        check.due("it lasts 8 frames", 64, () -> y.duration(0));
        y.erase(0);
        y.call(0, 0, 0);
        y.call(1, 0, 0);
        y.frames(0, 0, 2);
        check.due("the quota is used", 2, () -> y.used(0));
        check.due("the third quiet frame makes it less", false, () -> y.frame(0, 0));
        check.due("so that another line goes on", false, () -> y.frame(1, 0));
        check.due("gap of 4", false, () -> y.frame(0, 0));
        check.due("no gap of 5", true, () -> y.frame(0, 0));
        check.due("used", 2, () -> y.used(0));
    }

    private static void sampleWithoutBlocks() {
        check.part("promise 4, no free block");
        Bank x = Bank.withoutFreeBlocks();
        check.due("no free block", 0, () -> x.total(3));
        check.due("the greatest", 39, () -> x.total(4));
        x.call(0, 0, 1);
        for (int i = 0; i < 7; i++) {
            check.due("sample " + i, false, () -> x.sample(0, 90));
        }
        check.due("the eighth", true, () -> x.sample(0, 90));
        check.due("nothing was recorded", -1, () -> x.hang(0));
        check.due("the greeting of before stays", 8, () -> x.length(0, 0));
        check.due("two blocks become free", 2, () -> x.erase(x.next(2, 0, 0)));
        int first = x.leastFree(0);
        int second = x.leastFree(first + 1);
        x.call(0, 3, 0);
        check.due("four frames in one block", false, () -> x.frames(0, 90, 4));
        check.due("the free one with the least number", 4, () -> x.block(first));
        x.call(1, 3, 3);
        check.due("a frame in the other", false, () -> x.frame(1, 90));
        check.due("its entries", 1, () -> x.block(second));
        check.due("no block for the fifth", true, () -> x.frame(0, 90));
        check.due("but places in the other", false, () -> x.frames(1, 0, 2));
        check.due("and for the gap", false, () -> x.frames(1, 0, 3));
        check.due("its entries with a gap", 2, () -> x.block(second));
        check.due("two more places", false, () -> x.frames(1, 90, 2));
        check.due("and no block", true, () -> x.frame(1, 90));
        check.due("used by the message", 4, () -> x.block(first));
        int made = x.hang(0);
        check.due("four frames stand", 32, () -> x.duration(made));
        check.due("eight frames stand", 64, () -> {
            x.hang(1);
            return x.length(3, 2);
        });
        gapWithoutBlocks();
    }

    /** A gap that begins in a full block gives the last block back, and grows when none is free. */
    private static void gapWithoutBlocks() {
        Bank x = Bank.withoutFreeBlocks();
        x.erase(x.next(2, 0, 0));
        x.call(0, 0, 2);
        x.frames(0, 90, 3);
        check.due("two quiet frames take the last block", false, () -> x.frames(0, 0, 2));
        check.due("none is free", 0, () -> x.total(3));
        check.due("a third quiet one fits", false, () -> x.frame(0, 0));
        check.due("one is free", 1, () -> x.total(3));
        x.call(1, 1, 2);
        check.due("another takes it", false, () -> x.frame(1, 90));
        check.due("none is free again", 0, () -> x.total(3));
        check.due("the gap grows", false, () -> x.frames(0, 0, 5));
        check.due("a loud frame has no block", true, () -> x.frame(0, 90));
        x.hang(0);
        check.due("what stands", 88, () -> x.length(0, 1));
    }

    private static void hang() {
        check.part("promise 5");
        Bank x = Bank.withBoxes(9, 1);
        check.illegalArgument("line -1", () -> x.hang(-1));
        check.illegalArgument("line 3", () -> x.hang(3));
        check.illegalState("not busy", () -> x.hang(0));
        x.call(0, 0, 0);
        x.call(1, 0, 0);
        check.due("nothing", -1, () -> x.hang(1));
        check.due("line 0 is busy still", 1, () -> x.total(5));
        check.illegalState("hung up", () -> x.hang(1));
        x.sample(0, 500);
        check.due("numbers go by hanging up, NONE takes none", 0, () -> x.hang(0));
        check.due("a frame with 0s behind", 8, () -> x.duration(0));
        check.due("used", 1, () -> x.used(0));
        check.due("a new one", 0, () -> x.next(0, 0, 0));
        check.due("no line is busy", 0, () -> x.total(5));
        x.call(2, 0, 0);
        x.frame(2, 500);
        check.due("a whole frame has none behind it", 1, () -> x.hang(2));
        check.due("of 8", 8, () -> x.duration(1));
        partlyFilledFrames();
        greetingsTakeThePlace(x);
    }

    private static void partlyFilledFrames() {
        Bank x = Bank.withBoxes(9, 1);
        x.call(0, 0, 0);
        x.frames(0, 0, 2);
        x.sample(0, 40);
        check.due("the rest makes a gap", 0, () -> x.hang(0));
        check.due("cost of the gap", 1, () -> x.used(0));
        check.due("its samples", 24, () -> x.duration(0));
        x.call(0, 1, 0);
        x.frame(0, 200);
        x.sample(0, 200);
        check.due("the rest does not fit", 1, () -> x.hang(0));
        check.due("it is dropped", 8, () -> x.duration(1));
        x.call(0, 1, 0);
        x.sample(0, 200);
        check.due("all does not fit", -1, () -> x.hang(0));
        x.call(0, 0, 0);
        check.due("numbers go on", 2, () -> {
            x.sample(0, 1);
            return x.hang(0);
        });
        for (int i = 1; i < 8; i++) {
            int at = i;
            check.due("0s were coded at " + at, true, () -> Math.abs(x.play(2, at)) < 10);
        }
    }

    private static void greetingsTakeThePlace(Bank x) {
        for (int kind = 1; kind <= 3; kind++) {
            int which = kind - 1;
            check.due("first of kind " + kind, 0, () -> x.note(0, 1, which + 1, 700, 5));
            check.due("blocks", 36, () -> x.total(3));
            x.call(0, 1, kind);
            x.frame(0, 80);
            check.due("the old one stays while it is spoken", 40, () -> x.length(1, which));
            check.due("the new one takes the place", 0, () -> x.hang(0));
            check.due("its length", 8, () -> x.length(1, which));
            check.due("the old one's blocks are free", 37, () -> x.total(3));
            x.call(0, 1, kind);
            check.due("nothing said", -1, () -> x.hang(0));
            check.due("all else stays", 8, () -> x.length(1, which));
            if (kind < 3) {
                x.erase(kind - 1);
            }
        }
        check.due("no message came of these", 0, () -> x.total(1));
    }

    private static void next() {
        check.part("promise 6");
        Bank x = Bank.withBoxes(50, 50);
        for (int i = 0; i < 6; i++) {
            x.shortNote(i == 2 ? 1 : 0, 0);
        }
        x.mark(4, 1);
        x.mark(0, 1);
        x.mark(0, 0);
        x.forward(2, 0);
        int[] news = {0, 1, 3, 5, 6};
        for (int i = 0; i < news.length; i++) {
            int k = i;
            check.due("new " + k, news[k], () -> x.next(0, 0, k));
        }
        check.due("heard", 4, () -> x.next(0, 1, 0));
        check.due("of the other box", 2, () -> x.next(1, 0, 0));
        check.outOfBounds("behind the last", () -> x.next(0, 0, 5));
        check.outOfBounds("behind the only one", () -> x.next(0, 1, 1));
        check.outOfBounds("none kept", () -> x.next(0, 2, 0));
        check.outOfBounds("k -1", () -> x.next(0, 0, -1));
        check.outOfBounds("k greatest", () -> x.next(0, 0, MAX));
        check.illegalArgument("list 3", () -> x.next(0, 3, -1));
        check.illegalArgument("list -1", () -> x.next(0, -1, 0));
        check.noSuchElement("box 2", () -> x.next(2, 3, -1));
        check.noSuchElement("box -1", () -> x.next(-1, 0, 0));
        x.erase(1);
        check.due("behind an erased one", 3, () -> x.next(0, 0, 1));
        x.mark(3, 2);
        x.mark(0, 2);
        check.due("kept 0", 0, () -> x.next(0, 2, 0));
        check.due("kept 1", 3, () -> x.next(0, 2, 1));
    }

    private static void mark() {
        check.part("promise 7");
        Bank x = Bank.withBoxes(50);
        x.shortNote(0, 0);
        check.due("to kept", 0, () -> x.mark(0, 2));
        check.due("to heard", 2, () -> x.mark(0, 1));
        check.due("the same", 1, () -> x.mark(0, 1));
        check.illegalArgument("list 3", () -> x.mark(0, 3));
        check.illegalArgument("list -1", () -> x.mark(0, -1));
        check.noSuchElement("message 1", () -> x.mark(1, 0));
        check.noSuchElement("message before list", () -> x.mark(-1, 3));
        check.due("nothing changed by these", 1, () -> x.mark(0, 0));
        check.due("back in the new ones", 0, () -> x.next(0, 0, 0));
        x.erase(0);
        check.noSuchElement("erased", () -> x.mark(0, 0));
    }

    private static void erase() {
        check.part("promise 8");
        Bank x = Bank.withBoxes(90, 90);
        x.note(0, 0, 3, 600, 5);
        x.note(0, 0, 0, 600, 9);
        check.due("forwarded", 1, () -> x.forward(0, 1));
        check.due("forwarded again", 2, () -> x.forward(0, 0));
        check.noSuchElement("message 3", () -> x.erase(3));
        check.noSuchElement("message -1", () -> x.erase(-1));
        check.due("the recording is shared", 0, () -> x.erase(0));
        check.noSuchElement("erased twice", () -> x.erase(0));
        check.noSuchElement("and not there", () -> x.duration(0));
        x.shortNote(0, 3);
        check.due("a preface that messages have stays", 112, () -> x.duration(1));
        check.due("the preface is shared", 0, () -> x.erase(1));
        check.due("nobody has them any more", 5, () -> x.erase(2));
        check.due("free blocks", 39, () -> x.total(3));
        check.due("its number is not taken again", 3, () -> x.shortNote(0, 0));
        check.due("one block", 1, () -> x.erase(3));
        check.due("numbers go on when none is there", 4, () -> x.shortNote(1, 0));
        x.forward(x.next(1, 0, 0), 1);
        check.due("used", 2, () -> x.used(1));
        x.erase(4);
        check.due("used after that", 1, () -> x.used(1));
    }

    private static void forward() {
        check.part("promise 9");
        Bank x = Bank.withBoxes(50, 4, 0);
        x.note(0, 0, 0, 900, 1);
        x.mark(0, 2);
        check.due("without a preface", 1, () -> x.forward(0, 1));
        check.due("it is new", 1, () -> x.next(1, 0, 0));
        check.due("the other one stays where it is", 0, () -> x.next(0, 2, 0));
        x.note(0, 0, 3, 100, 1);
        x.note(0, 1, 3, -100, 2);
        check.due("with the preface of its box", 2, () -> x.forward(0, 1));
        check.due("the preface first", 30, () -> x.play(2, 0));
        check.due("then the recording", x.play(0, 0), () -> x.play(2, 8));
        check.due("prefaces are used too", 3, () -> x.used(1));
        check.illegalState("more than the quota", () -> x.forward(0, 1));
        check.illegalState("a quota of 0", () -> x.forward(0, 2));
        check.due("a forwarded one forwarded", 3, () -> x.forward(2, 0));
        check.due("the preface is that of the box, not that of the message", 24, () -> x.duration(3));
        check.due("and sounds like it", -30, () -> x.play(3, 0));
        check.due("used in box 0", 4, () -> x.used(0));
        check.due("in its own box", 4, () -> x.forward(0, 0));
        check.due("with its own preface", 16, () -> x.duration(4));
        check.noSuchElement("message 9", () -> x.forward(9, 0));
        check.noSuchElement("box 3", () -> x.forward(0, 3));
        check.noSuchElement("box -1", () -> x.forward(0, -1));
        check.due("blocks are shared", 37, () -> x.total(3));
        check.due("recordings", 3, () -> x.total(2));
        forwardUpToTheQuota();
        forwardWhenFull();
    }

    private static void forwardUpToTheQuota() {
        Bank x = Bank.withBoxes(50, 3);
        x.note(0, 0, 0, 900, 2);
        x.call(1, 1, 0);
        x.frame(1, 900);
        check.due("just the quota, with what is being spoken", 1, () -> x.forward(0, 1));
        check.due("used", 3, () -> x.used(1));
        check.due("the line finds no room", true, () -> x.frame(1, 900));
        x.erase(1);
        x.note(0, 0, 3, 900, 1);
        check.illegalState("the preface is too much", () -> x.forward(0, 1));
        check.due("nothing changed", 1, () -> x.used(1));
    }

    private static void forwardWhenFull() {
        Bank x = Bank.withBoxes(500);
        x.shortNote(0, 0);
        for (int i = 1; i < 15; i++) {
            int number = i;
            check.due("forward " + i, number, () -> x.forward(0, 0));
        }
        x.call(0, 0, 1);
        x.call(1, 0, 0);
        check.illegalState("16 with the one that is being spoken", () -> x.forward(0, 0));
        check.noSuchElement("no such box comes first", () -> x.forward(0, 1));
        check.noSuchElement("no such message comes first", () -> x.forward(15, 0));
        x.hang(1);
        check.due("the sixteenth", 15, () -> x.forward(0, 0));
        check.illegalState("a seventeenth", () -> x.forward(0, 0));
        check.due("blocks", 39, () -> x.total(3));
    }

    private static void duration() {
        check.part("promise 10");
        Bank x = Bank.withBoxes(90);
        x.note(0, 0, 0, 0, 7);
        check.due("a gap", 56, () -> x.duration(0));
        x.note(0, 0, 0, 70, 5);
        check.due("five frames", 40, () -> x.duration(1));
        x.note(0, 0, 3, 0, 3);
        x.forward(1, 0);
        check.due("with a preface", 64, () -> x.duration(2));
        check.due("the first has none", 40, () -> x.duration(1));
        check.noSuchElement("message 3", () -> x.duration(3));
        check.noSuchElement("message -1", () -> x.duration(-1));
        check.noSuchElement("message least", () -> x.duration(MIN));
    }

    private static void play() {
        check.part("promise 11");
        Bank x = Bank.withBoxes(90);
        x.note(0, 0, 0, 900, 6);
        x.note(0, 0, 3, -900, 1);
        x.forward(0, 0);
        check.due("the preface", -30, () -> x.play(1, 0));
        check.due("the message", 30, () -> x.play(1, 8));
        for (int i = 0; i < 48; i += 3) {
            int at = i;
            check.due("behind the preface at " + at, x.play(0, at), () -> x.play(1, 8 + at));
        }
        check.outOfBounds("behind the end", () -> x.play(0, 48));
        check.outOfBounds("behind the end with the preface", () -> x.play(1, 56));
        check.outOfBounds("-1", () -> x.play(0, -1));
        check.outOfBounds("least", () -> x.play(1, MIN));
        check.outOfBounds("greatest", () -> x.play(1, MAX));
        check.noSuchElement("message before sample", () -> x.play(2, -1));
        check.noSuchElement("message -1", () -> x.play(-1, 0));
    }

    private static void length() {
        check.part("promise 12");
        Bank x = Bank.withBoxes(0, 9);
        for (int i = 0; i < 3; i++) {
            int which = i;
            check.due("none " + which, 0, () -> x.length(0, which));
            x.note(0, 0, which + 1, 300, which + 1);
        }
        for (int i = 0; i < 3; i++) {
            int which = i;
            check.due("length " + which, 8 * which + 8, () -> x.length(0, which));
            check.due("in the other box " + which, 0, () -> x.length(1, which));
        }
        check.illegalArgument("which 3", () -> x.length(0, 3));
        check.illegalArgument("which -1", () -> x.length(0, -1));
        check.noSuchElement("box before which", () -> x.length(2, 3));
        check.noSuchElement("box -1", () -> x.length(-1, 0));
    }

    private static void greeting() {
        check.part("promise 13");
        Bank x = Bank.withBoxes(0, 9);
        x.note(0, 0, 1, 300, 1);
        x.note(0, 0, 2, -300, 1);
        x.note(0, 0, 3, 0, 3);
        check.due("greeting 0", 30, () -> x.greeting(0, 0, 0));
        check.due("greeting 1", -30, () -> x.greeting(0, 1, 0));
        check.due("preface, a gap", 0, () -> x.greeting(0, 2, 23));
        check.outOfBounds("behind greeting 0", () -> x.greeting(0, 0, 8));
        check.outOfBounds("behind the preface", () -> x.greeting(0, 2, 24));
        check.outOfBounds("-1", () -> x.greeting(0, 0, -1));
        check.outOfBounds("none there", () -> x.greeting(1, 0, 0));
        check.illegalArgument("which 3", () -> x.greeting(0, 3, 99));
        check.illegalArgument("which -1", () -> x.greeting(0, -1, 0));
        check.noSuchElement("box before which", () -> x.greeting(2, 3, 99));
        check.noSuchElement("box -1", () -> x.greeting(-1, 0, 0));
    }

    private static void used() {
        check.part("promise 14");
        Bank x = Bank.withBoxes(90, 90);
        check.due("nothing", 0, () -> x.used(0));
        x.note(0, 0, 1, 600, 3);
        x.note(0, 0, 3, 600, 2);
        check.due("greetings and preface are free", 0, () -> x.used(0));
        x.call(0, 0, 1);
        x.frame(0, 600);
        check.due("while they are spoken too", 0, () -> x.used(0));
        x.call(1, 0, 0);
        x.frame(1, 600);
        check.due("a message that is being spoken", 1, () -> x.used(0));
        check.due("not the other box", 0, () -> x.used(1));
        x.hang(1);
        check.due("a message", 1, () -> x.used(0));
        x.forward(0, 1);
        x.forward(0, 1);
        check.due("each message anew, with its preface", 6, () -> x.used(1));
        x.forward(0, 0);
        check.due("shared in a box", 4, () -> x.used(0));
        x.erase(0);
        check.due("erased", 3, () -> x.used(0));
        x.hang(0);
        check.noSuchElement("box 2", () -> x.used(2));
        check.noSuchElement("box -1", () -> x.used(-1));
    }

    private static void quota() {
        check.part("promise 15");
        Bank x = Bank.withBoxes(0, 500, 17);
        check.due("0", 0, () -> x.quota(0));
        check.due("500", 500, () -> x.quota(1));
        check.due("17", 17, () -> x.quota(2));
        x.shortNote(2, 0);
        check.due("17 with a message", 17, () -> x.quota(2));
        check.noSuchElement("box 3", () -> x.quota(3));
        check.noSuchElement("box -1", () -> x.quota(-1));
    }

    private static void pack() {
        check.part("promise 16");
        Bank x = Bank.withBoxes(90);
        check.due("nothing to move", 0, () -> x.pack(100));
        check.illegalArgument("-1", () -> x.pack(-1));
        check.illegalArgument("101", () -> x.pack(101));
        for (int i = 0; i < 3; i++) {
            x.shortNote(0, 0);
        }
        x.note(0, 0, 0, 900, 10);
        check.due("without a hole", 0, () -> x.pack(5));
        x.erase(0);
        x.erase(2);
        int[] before = new int[80];
        for (int i = 0; i < 80; i++) {
            before[i] = x.play(3, i);
        }
        check.due("not at all", 0, () -> x.pack(0));
        check.due("the greatest", 5, () -> x.total(4));
        check.due("one", 1, () -> x.pack(1));
        check.due("the greatest goes to the least", 2, () -> x.block(0));
        check.due("and is free", 0, () -> x.block(5));
        check.due("two is free still", 0, () -> x.block(2));
        check.due("one more, and no more", 1, () -> x.pack(100));
        int[] entries = {2, 1, 4, 4, 0, 0};
        for (int b = 0; b < entries.length; b++) {
            int number = b;
            check.due("block " + number, entries[number], () -> x.block(number));
        }
        check.due("none", 0, () -> x.pack(1));
        for (int i = 0; i < 80; i++) {
            int at = i;
            check.due("it sounds the same at " + at, before[at], () -> x.play(3, at));
        }
        check.due("all its blocks become free", 3, () -> x.erase(3));
        check.due("the other one is there", 8, () -> x.duration(1));
        check.due("free blocks", 39, () -> x.total(3));
        Bank none = new Bank();
        check.due("an empty bank", 0, () -> none.pack(100));
        Bank full = Bank.withoutFreeBlocks();
        check.due("a full bank", 0, () -> full.pack(100));
    }

    private static void packWhileSpoken() {
        check.part("promise 16, while it is spoken");
        Bank x = Bank.withBoxes(90);
        x.shortNote(0, 0);
        x.shortNote(0, 0);
        x.call(0, 0, 0);
        x.call(1, 0, 1);
        x.frames(0, 400, 4);
        x.frame(0, 0);
        x.frame(1, 400);
        x.erase(0);
        x.erase(1);
        check.due("greatest", 4, () -> x.total(4));
        check.due("moved", 2, () -> x.pack(9));
        check.due("the greeting's", 1, () -> x.block(0));
        check.due("the message's second", 1, () -> x.block(1));
        check.due("the message's first", 4, () -> x.block(2));
        x.frame(0, 0);
        check.due("it goes on where it is", 2, () -> x.block(1));
        x.frame(0, 0);
        check.due("a gap", 1, () -> x.block(1));
        x.frames(0, 400, 4);
        check.due("a new block is the least free", 1, () -> x.block(3));
        x.frame(1, 400);
        check.due("the greeting too", 2, () -> x.block(0));
        check.due("its number", 2, () -> x.hang(0));
        x.hang(1);
        check.due("duration", 88, () -> x.duration(2));
        check.due("in the gap", 0, () -> x.play(2, 55));
        check.due("behind it", 30, () -> x.play(2, 56));
        check.due("greeting", 30, () -> x.greeting(0, 0, 0));
        check.due("all free", 3, () -> x.erase(2));
        check.due("but the greeting's", 0, () -> x.total(4));
    }

    private static void block() {
        check.part("promise 17");
        Bank x = Bank.withBoxes(90, 90);
        check.outOfBounds("-1", () -> x.block(-1));
        check.outOfBounds("40", () -> x.block(40));
        check.outOfBounds("least", () -> x.block(MIN));
        check.due("39", 0, () -> x.block(39));
        x.call(0, 0, 0);
        for (int i = 1; i <= 4; i++) {
            int entries = i;
            x.frame(0, 100);
            check.due("entries " + i, entries, () -> x.block(0));
        }
        x.frame(0, 100);
        check.due("full", 4, () -> x.block(0));
        check.due("the next", 1, () -> x.block(1));
        x.hang(0);
        x.forward(0, 1);
        check.due("shared", 4, () -> x.block(0));
        check.due("no other one", 0, () -> x.block(2));
        x.erase(0);
        check.due("still had", 4, () -> x.block(0));
        x.erase(1);
        check.due("free", 0, () -> x.block(0));
        check.due("free too", 0, () -> x.block(1));
        x.note(0, 0, 0, 0, 5);
        check.due("a gap is one entry", 1, () -> x.block(0));
    }

    private static void step() {
        check.part("promise 18");
        Bank x = new Bank();
        int[] steps = {16, 18, 20, 23, 26, 29, 32, 36, 40, 45, 50, 56, 62, 69, 76, 84, 93, 103, 114, 126, 139,
            153, 169, 186, 205, 226, 249, 274, 302, 333, 367, 404, 445, 490, 540, 595, 655, 721, 794, 874, 962,
            1059, 1165, 1282, 1411, 1553, 1709, 1880, 2069};
        check.due("how many", 49, () -> steps.length);
        for (int i = 0; i < steps.length; i++) {
            int at = i;
            check.due("step " + at, steps[at], () -> x.step(at));
        }
        check.outOfBounds("-1", () -> x.step(-1));
        check.outOfBounds("49", () -> x.step(49));
        check.outOfBounds("greatest", () -> x.step(MAX));
    }

    private static void total() {
        check.part("promise 19");
        Bank x = Bank.withBoxes(90, 90, 90);
        x.call(2, 0, 0);
        x.frame(2, 100);
        int[] spoken = {3, 0, 0, 39, 0, 4};
        totals(x, "being spoken", spoken);
        x.hang(2);
        x.note(0, 1, 1, 100, 5);
        x.note(0, 0, 3, 100, 1);
        x.forward(0, 1);
        x.forward(0, 2);
        x.call(0, 1, 1);
        x.call(1, 1, 2);
        int[] shared = {3, 3, 3, 36, 3, 3};
        totals(x, "shared", shared);
        x.erase(0);
        x.note(2, 0, 3, 100, 1);
        int[] kept = {3, 2, 4, 35, 4, 3};
        totals(x, "kept by messages", kept);
        x.erase(1);
        x.erase(2);
        int[] erased = {3, 0, 2, 37, 4, 3};
        totals(x, "erased", erased);
        for (int what : new int[] {-1, 6, 7, MAX, MIN}) {
            check.due("total " + what, -1, () -> x.total(what));
        }
    }

    private static void totals(Bank x, String when, int[] due) {
        for (int i = 0; i < due.length; i++) {
            int what = i;
            check.due(when + ", total " + what, due[what], () -> x.total(what));
        }
    }
}
