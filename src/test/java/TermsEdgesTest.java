import java.util.Arrays;

/** The boundary cases that the sentences of "What it is" and "Terms" name, sentence by sentence. */
public final class TermsEdgesTest {
    private static final int LOUD = 300;
    private static final int QUIET = 0;
    private static final Check check = new Check("TermsEdgesTest");

    public static void main(String[] args) {
        lastCall();
        samplesOfAFrame();
        quietFrames();
        steps();
        sign();
        parts();
        partsRoundedDown();
        change();
        guessInBounds();
        indexGrows();
        indexInBounds();
        goesOnOrBeginsAnew();
        gaps();
        gapTakesThePlace();
        cost();
        blocksOfFour();
        leastFreeBlock();
        boxesAtFirst();
        numbersOfMessages();
        sixteenMessages();
        lists();
        shared();
        uses();
        busyLines();
        recordedFrameByFrame();
        fitsIntoBlocks();
        gapsWithoutBlocks();
        fitsIntoTheQuota();
        greatestQuota();
        endedForGood();
        check.end();
    }

    private static void terms(String words) {
        check.sentence("Terms", words);
    }

    /** How samples sound in a recording of their own. */
    private static int[] sounds(int... spoken) {
        Bank x = Bank.withBoxes(0);
        x.call(0, 0, 1);
        x.samples(0, spoken);
        x.hang(0);
        int[] heard = new int[spoken.length];
        for (int i = 0; i < heard.length; i++) {
            heard[i] = x.greeting(0, 0, i);
        }
        return heard;
    }

    private static int last(int... spoken) {
        return sounds(spoken)[spoken.length - 1];
    }

    /** A message that is being spoken on line 0 into box 0, each frame told by the value of its samples. */
    private static Bank speaking(int... frames) {
        Bank x = Bank.withBoxes(500);
        x.call(0, 0, 0);
        for (int f : frames) {
            x.frame(0, f);
        }
        return x;
    }

    private static void lastCall() {
        check.sentence("What it is", "An object is used for at most 512 calls after it has been made");
        Bank x = Bank.withBoxes(500);
        x.call(0, 0, 0);
        x.frames(0, LOUD, 63);
        check.due("call 507 hangs up", 0, () -> x.hang(0));
        check.due("call 508", 504, () -> x.duration(0));
        check.due("call 509", 63, () -> x.used(0));
        check.due("call 510", 24, () -> x.total(3));
        check.due("call 511", 3, () -> x.block(15));
        check.due("call 512", 15, () -> x.total(4));
        check.due("calls", 512, x::calls);
        Bank y = Bank.withBoxes(500);
        y.shortNote(0, 0);
        for (int i = 0; i < 253; i++) {
            y.forward(i, 0);
            y.erase(i);
        }
        check.due("call 511 makes the message with the greatest number", 254, () -> y.forward(253, 0));
        check.due("call 512 erases the one before", 0, () -> y.erase(253));
        check.due("calls", 512, y::calls);
    }

    private static void samplesOfAFrame() {
        terms("SOUND comes as SAMPLES, -32768 .. 32767, of which 8 make a FRAME.");
        Bank x = speaking();
        for (int i = 0; i <= 16; i++) {
            int whole = i / 8;
            check.due("frames of " + i + " samples", whole, () -> x.used(0));
            x.sample(0, LOUD);
        }
        // Here the highest sample misses s and s / 4 together by 1.
        int[] rising = Bank.times(15, 32767, 30098);
        check.due("32767 is taken as it is", 32509, () -> last(Bank.times(15, 32767, 30098, 32767)));
        check.due("one less sounds the same here", 32509, () -> last(Bank.times(15, 32767, 30098, 32766)));
        check.due("the sample before", 30182, () -> last(rising));
        // Here the guess is -32768: the lowest sample is not below it.
        check.due("-32768 is taken as it is", -32510, () -> last(Bank.times(15, -32768)));
        check.due("the sample before it", -32768, () -> last(Bank.times(14, -32768)));
    }

    private static void quietFrames() {
        terms("A frame is QUIET when all its samples are -48 .. 48.");
        int[] values = {48, 49, -48, -49, 32767, -32768};
        int[] costs = {1, 3, 1, 3, 3, 3};
        for (int v = 0; v < values.length; v++) {
            int value = values[v];
            check.due("three frames of " + value, costs[v], () -> speaking(value, value, value).used(0));
            for (int place = 0; place < 8; place++) {
                int at = place;
                check.due("three frames with one " + value + " at " + at, costs[v], () -> costWithOne(value, at));
            }
        }
    }

    private static int costWithOne(int value, int at) {
        Bank x = speaking();
        for (int i = 0; i < 24; i++) {
            x.sample(0, i % 8 == at ? value : 0);
        }
        return x.used(0);
    }

    private static void steps() {
        terms("step 0 is 16, step i + 1 is step i, a tenth of it (rounded down), and 1 more; there are 49.");
        Bank x = new Bank();
        check.due("step 0", 16, () -> x.step(0));
        check.due("16 and 1 and 1", 18, () -> x.step(1));
        check.due("18 and 1.8 rounded down and 1", 20, () -> x.step(2));
        check.due("20 and just 2 and 1", 23, () -> x.step(3));
        check.due("29 and 2.9 rounded down and 1", 32, () -> x.step(6));
        for (int i = 0; i < 48; i++) {
            int at = i;
            int s = x.step(at);
            check.due("behind step " + at, s + s / 10 + 1, () -> x.step(at + 1));
        }
        check.due("the last", 2069, () -> x.step(48));
        check.outOfBounds("there is no fiftieth", () -> x.step(49));
    }

    private static void sign() {
        terms("If d is below 0 the sign is told, and -d is taken for d.");
        check.due("d = 0 has no sign", 2, () -> last(0));
        check.due("d = -1 has it", -2, () -> last(-1));
        check.due("d = 1 has not", 2, () -> last(1));
        check.due("behind a guess of 2, d = 0", 4, () -> last(0, 2));
        check.due("behind a guess of 2, d = -1", 0, () -> last(0, 1));
        check.due("the least d", -2, () -> last(-3));
        check.due("-d is taken", -6, () -> last(-4));
        check.due("d = -65535", 29242, () -> last(Bank.times(15, 32767, -32768)));
        check.due("behind a guess of -32768, d = 0", -32510, () -> last(Bank.times(14, -32768, -32768)));
    }

    private static void parts() {
        terms("for the parts s, s / 2 and s / 4 (rounded down), one behind the other: if d is at least the part, "
                + "it is told (as 4, 2, 1), and taken away from d.");
        // s = 16: the parts 16, 8 and 4, and 2 besides.
        int[] d = {0, 3, 4, 7, 8, 11, 12, 15, 16, 19, 20, 23, 24, 27, 28, 32767};
        int[] sound = {2, 2, 6, 6, 10, 10, 14, 14, 18, 18, 22, 22, 26, 26, 30, 30};
        for (int i = 0; i < d.length; i++) {
            int up = d[i];
            int down = up == 0 ? -1 : -up;
            check.due("d = " + up, sound[i], () -> last(up));
            check.due("d = " + down, -sound[i], () -> last(down));
        }
    }

    private static void partsRoundedDown() {
        terms("s / 2 and s / 4 (rounded down)");
        // 20 sounds like 22 and leads to step 26: the parts 26, 13 and 6 (not 6.5), and 3 besides.
        int[] even = {5, 6, 12, 13, 18, 19, 25, 26, 31, 32, 38, 39, 44, 45};
        int[] evenChange = {3, 9, 9, 16, 16, 22, 22, 29, 29, 35, 35, 42, 42, 48};
        for (int i = 0; i < even.length; i++) {
            int x = 22 + even[i];
            check.due("step 26, d = " + even[i], 22 + evenChange[i], () -> last(20, x));
        }
        // 22 then sounds like 25 and leads to step 23: the parts 23, 11 (not 11.5) and 5 (not 5.75), and 2 besides.
        int[] odd = {4, 5, 10, 11, 15, 16, 22, 23, 27, 28, 33, 34, 38, 39};
        int[] oddChange = {2, 7, 7, 13, 13, 18, 18, 25, 25, 30, 30, 36, 36, 41};
        for (int i = 0; i < odd.length; i++) {
            int x = 25 + odd[i];
            check.due("step 23, d = " + odd[i], 25 + oddChange[i], () -> last(20, 22, x));
        }
    }

    private static void change() {
        terms("The CHANGE is s / 8 (rounded down) and the parts that were told; g grows by it, or gets less by it when "
                + "the sign was told");
        check.due("16 / 8", 2, () -> last(3));
        check.due("26 / 8 rounded down", 22 + 3, () -> last(20, 22));
        check.due("23 / 8 rounded down", 25 + 2, () -> last(20, 22, 25));
        check.due("26 / 8 with the sign", 22 - 3, () -> last(20, 21));
        check.due("all parts with the sign", 22 - 48, () -> last(20, -32768));
    }

    private static void guessInBounds() {
        terms("but stays in -32768 .. 32767.");
        check.due("below the highest", 30443, () -> last(Bank.times(13, 32767)));
        check.due("32770 is too high", 32767, () -> last(Bank.times(14, 32767)));
        check.due("32767 and 258 too", 32767, () -> last(Bank.times(15, 32767)));
        check.due("and 32767 is what it goes on from", 28889, () -> last(Bank.times(14, 32767, -32768)));
        check.due("above the lowest", -30443, () -> last(Bank.times(13, -32768)));
        check.due("-32770 is too low", -32768, () -> last(Bank.times(14, -32768)));
        check.due("and -32768 is what it goes on from", -28890, () -> last(Bank.times(14, -32768, 32767)));
    }

    private static void indexGrows() {
        terms("x grows by -1, -1, -1, -1, 2, 4, 6, 8 for the sum of what was told, 0 .. 7");
        // 28 sounds like 30 and leads to step 40 (index 8), then d = 10 a part; the last change tells the step.
        int[] lastChange = {67, 67, 67, 67, 93, 115, 142, 173};
        for (int i = 0; i < 8; i++) {
            int sum = i;
            int guess = 30 + 5 + 10 * sum;
            check.due("sum " + sum, guess + lastChange[sum], () -> last(28, 30 + 10 * sum, 32767));
        }
        // The same downwards, from -28.
        for (int i = 1; i < 8; i++) {
            int sum = i;
            int guess = -30 - 5 - 10 * sum;
            check.due("sum " + sum + " with the sign", guess - lastChange[sum], () -> last(-28, -30 - 10 * sum, -32768));
        }
    }

    private static void indexInBounds() {
        terms("but stays in 0 .. 48.");
        for (int i = 0; i < 4; i++) {
            int d = 4 * i;
            check.due("index 0, sum " + i + ", then step 16", d + 2 + 30, () -> last(d, 32767));
        }
        check.due("index 2, then 1, then step 18", 53, () -> last(16, 18, 32767));
        check.due("index 2, 1, 0, then step 16", 52, () -> last(16, 18, 20, 32767));
        check.due("index 2, 1, 0, 0, then step 16", 54, () -> last(16, 18, 20, 22, 32767));
        check.due("index 40, then step 962", 3297, () -> last(Bank.times(6, 32767)));
        check.due("index 48, then step 2069", 7175, () -> last(Bank.times(7, 32767)));
        check.due("index 48 with sum 7, then step 2069 again", 11053, () -> last(Bank.times(8, 32767)));
        check.due("index 48 with sum 4, then step 2069 again", 9502, () -> last(Bank.times(6, 32767, 5366, 32767)));
        check.due("index 48 with sum 0, then step 1880", 7080, () -> last(Bank.times(6, 32767, 3297, 32767)));
        check.due("index 47 with sum 4, then step 2069", 9548, () -> last(Bank.times(6, 32767, 3297, 5435, 32767)));
    }

    private static void goesOnOrBeginsAnew() {
        terms("Both go on from frame to frame; they are 0 at the beginning of a recording, and behind a GAP.");
        String anew = "[30, 105, 278, 661, 1049, 999, 1044, 1003, 966, 1000, 1031, 1003, 978, 1001, 980, 999]";
        check.due("two frames", anew, () -> Check.row(sounds(Bank.times(16, 1000))));
        int[] two = sounds(Bank.times(8, 1000, Bank.times(16, 48, Bank.times(8, 1000))));
        check.due("behind two quiet frames they go on", "[334, 957, 1047, 966, 1040, 973, 1034, 979]",
                () -> Check.row(Arrays.copyOfRange(two, 24, 32)));
        for (int quiet = 3; quiet <= 5; quiet++) {
            int[] gap = sounds(Bank.times(8, 1000, Bank.times(8 * quiet, 48, Bank.times(16, 1000))));
            int from = 8 + 8 * quiet;
            check.due("behind a gap of " + quiet, anew, () -> Check.row(Arrays.copyOfRange(gap, from, from + 16)));
        }
        int[] atFirst = sounds(Bank.times(24, 0, Bank.times(16, 1000)));
        check.due("behind a gap at the beginning", anew, () -> Check.row(Arrays.copyOfRange(atFirst, 24, 40)));
        beginsAnewOnALine();
        linesApart();
    }

    private static void beginsAnewOnALine() {
        Bank x = Bank.withBoxes(1, 500);
        x.call(0, 1, 0);
        x.samples(0, Bank.times(13, 1000));
        x.hang(0);
        x.call(0, 1, 0);
        x.frame(0, 1000);
        x.hang(0);
        check.due("behind a recording", Check.row(30, 105, 278, 661), () -> x.heard(1, 0, 4));
        x.call(0, 0, 0);
        check.due("one that has ended", true, () -> x.frames(0, 1000, 2));
        x.hang(0);
        x.call(0, 1, 0);
        x.frame(0, 1000);
        x.hang(0);
        check.due("behind one that has ended", Check.row(30, 105, 278, 661), () -> x.heard(3, 0, 4));
        x.call(0, 1, 0);
        x.frames(0, 0, 2);
        x.hang(0);
        x.call(0, 1, 0);
        x.frame(0, 0);
        x.hang(0);
        check.due("no run goes on from one recording to the next", Check.row(2, 0, 2, 0), () -> x.heard(5, 0, 4));
    }

    private static void linesApart() {
        int[] a = {1000, 2000, -3000, 50, 60, 70, 80, 90, 100};
        int[] b = {-500, -600, 20, 30000, -7, 0, 0, 49, 3};
        Bank x = Bank.withBoxes(500);
        x.call(0, 0, 0);
        x.call(2, 0, 0);
        for (int i = 0; i < a.length; i++) {
            x.sample(0, a[i]);
            x.sample(2, b[i]);
        }
        x.hang(0);
        x.hang(2);
        check.due("line 0 by itself", "[30, 105, -68, 59, 82, 61, 80, 97, 112]", () -> x.heard(0, 0, 9));
        check.due("line 2 by itself", "[-30, -105, 22, 281, 18, -16, 15, 43, 18]", () -> x.heard(1, 0, 9));
    }

    private static void gaps() {
        terms("A gap is a run of 3 or more quiet frames beside each other; its samples sound like 0.");
        check.due("two are none", "[30, 45, 49, 45, 48, 51, 49, 47, 49, 47, 49, 47, 49, 47, 49, 47]",
                () -> Check.row(sounds(Bank.times(16, 48))));
        check.due("three are one", Check.row(new int[24]), () -> Check.row(sounds(Bank.times(24, 48))));
        check.due("four are one", Check.row(new int[32]), () -> Check.row(sounds(Bank.times(32, -48))));
        int[] between = sounds(Bank.times(8, 1000, Bank.times(24, 48, Bank.times(8, 1000))));
        check.due("before the gap", 1003, () -> between[7]);
        check.due("the gap", Check.row(new int[24]), () -> Check.row(Arrays.copyOfRange(between, 8, 32)));
        check.due("behind the gap", 30, () -> between[32]);
        check.due("two, and two", "4 1", () -> speaking(QUIET, QUIET, LOUD, QUIET, QUIET).blocks());
        check.due("one, one and one", "4 1", () -> speaking(QUIET, LOUD, QUIET, LOUD, QUIET).blocks());
        check.due("three, and three", "3", () -> speaking(QUIET, QUIET, QUIET, LOUD, QUIET, QUIET, QUIET).blocks());
        check.due("two, and three", "4", () -> speaking(QUIET, QUIET, LOUD, QUIET, QUIET, QUIET).blocks());
        check.due("three, and two", "4", () -> speaking(QUIET, QUIET, QUIET, LOUD, QUIET, QUIET).blocks());
    }

    private static void gapTakesThePlace() {
        terms("(The first two quiet frames of a run are coded; when the third one comes, the run becomes a gap in the "
                + "place of the first of them, and the second one is dropped.)");
        String[][] due = {
            {"", "1", "2", "1", "1", "2"},
            {"1", "2", "3", "2", "2", "3"},
            {"2", "3", "4", "3", "3", "4"},
            {"3", "4", "4 1", "4", "4", "4 1"},
            {"4", "4 1", "4 2", "4 1", "4 1", "4 2"},
        };
        for (int before = 0; before < due.length; before++) {
            Bank x = speaking(Bank.times(before, LOUD));
            check.due(before + " loud frames", due[before][0], x::blocks);
            for (int quiet = 1; quiet <= 4; quiet++) {
                x.frame(0, QUIET);
                check.due(before + " loud frames, " + quiet + " quiet ones", due[before][quiet], x::blocks);
            }
            x.frame(0, LOUD);
            check.due(before + " loud frames, a gap, a loud frame", due[before][5], x::blocks);
        }
        aBlockBetweenOthersBecomesFree();
    }

    private static void aBlockBetweenOthersBecomesFree() {
        Bank x = speaking(LOUD, LOUD, LOUD, QUIET, QUIET);
        x.call(1, 0, 1);
        x.frame(1, LOUD);
        check.due("the second quiet frame in a block of its own", "4 1 1", x::blocks);
        x.frame(0, QUIET);
        check.due("is dropped with its block", "4 0 1", x::blocks);
        x.frames(1, LOUD, 4);
        check.due("which another recording takes", "4 1 4", x::blocks);
        x.frame(0, LOUD);
        check.due("behind the gap a new block", "4 1 4 1", x::blocks);
        x.hang(0);
        check.due("three loud frames, a gap of three, a loud frame", 56, () -> x.duration(0));
        check.due("its two blocks become free", 2, () -> x.erase(0));
        check.due("the other's do not", "0 1 4", x::blocks);
        Bank y = speaking(LOUD, LOUD, LOUD, QUIET, QUIET, QUIET);
        y.hang(0);
        check.due("no block behind the gap", "4", y::blocks);
        check.due("another recording takes it", 1, () -> y.note(0, 0, 0, LOUD, 1));
        check.due("which the first one has no more", 1, () -> y.erase(0));
        check.due("so that it stays", "0 1", y::blocks);
    }

    private static void cost() {
        terms("It COSTS 1 for each coded frame, and for each gap 1 for every four of its frames, and 1 for those that "
                + "are left, if any.");
        int[] costs = {0, 1, 2, 1, 1, 2, 2, 2, 2, 3, 3, 3, 3, 4};
        Bank x = speaking();
        for (int i = 0; i < costs.length; i++) {
            check.due(i + " quiet frames", costs[i], () -> x.used(0));
            x.frame(0, QUIET);
        }
        check.due("three loud frames", 3, () -> speaking(LOUD, LOUD, LOUD).used(0));
        check.due("two gaps of three", 3, () -> speaking(QUIET, QUIET, QUIET, LOUD, QUIET, QUIET, QUIET).used(0));
        Bank y = speaking(Bank.times(5, QUIET, LOUD, QUIET, QUIET, QUIET, QUIET, QUIET));
        check.due("two gaps of five", 5, () -> y.used(0));
        y.hang(0);
        check.due("when it is a message", 5, () -> y.used(0));
        y.forward(0, 0);
        check.due("and again", 10, () -> y.used(0));
    }

    private static void blocksOfFour() {
        terms("Entries lie in BLOCKS of four, numbered 0 .. 39, which make chains: all blocks of a recording but the "
                + "last are full, and none is empty.");
        String[] due = {"", "1", "2", "3", "4", "4 1", "4 2", "4 3", "4 4", "4 4 1"};
        Bank x = speaking();
        for (String d : due) {
            check.due("blocks", d, x::blocks);
            x.frame(0, LOUD);
        }
        Bank full = Bank.withoutFreeBlocks();
        for (int b = 0; b < 40; b++) {
            int number = b;
            check.due("of all 40, block " + number, 1, () -> full.block(number));
        }
        check.due("none is free", 0, () -> full.total(3));
        check.outOfBounds("there is no block 40", () -> full.block(40));
        check.outOfBounds("nor -1", () -> full.block(-1));
    }

    private static void leastFreeBlock() {
        terms("A new block is always the free one with the least number.");
        Bank x = Bank.withBoxes(500);
        for (int i = 0; i < 5; i++) {
            x.shortNote(0, 0);
        }
        x.erase(3);
        x.erase(1);
        check.due("two are free between others", "1 0 1 0 1", x::blocks);
        x.call(1, 0, 1);
        x.frame(1, LOUD);
        check.due("the least of them", "1 1 1 0 1", x::blocks);
        x.frames(1, LOUD, 4);
        check.due("then the next", "1 4 1 1 1", x::blocks);
        x.erase(0);
        x.call(2, 0, 2);
        x.frames(2, LOUD, 5);
        check.due("block 0, and one behind all", "4 4 1 1 1 1", x::blocks);
        Bank y = Bank.withOneFreeBlock();
        int free = y.leastFree(0);
        y.call(0, 3, 2);
        y.frames(0, LOUD, 2);
        check.due("the only one", 2, () -> y.block(free));
    }

    private static void boxesAtFirst() {
        terms("BOXES, up to 4, are numbered from 0 as they are opened; each has a QUOTA, two GREETINGS and a PREFACE "
                + "(recordings, none at first), and MESSAGES.");
        Bank x = new Bank();
        for (int b = 0; b < 4; b++) {
            int box = b;
            check.noSuchElement("box " + box + " before it is opened", () -> x.quota(box));
            check.due("opened", box, () -> x.box(10 * box));
            check.due("quota of " + box, 10 * box, () -> x.quota(box));
            check.due("used of " + box, 0, () -> x.used(box));
            for (int w = 0; w < 3; w++) {
                int which = w;
                check.due("length " + which + " of " + box, 0, () -> x.length(box, which));
                check.outOfBounds("greeting " + which + " of " + box, () -> x.greeting(box, which, 0));
                check.outOfBounds("list " + which + " of " + box, () -> x.next(box, which, 0));
            }
        }
        check.illegalState("a fifth", () -> x.box(0));
        check.noSuchElement("box 4", () -> x.quota(4));
    }

    private static void numbersOfMessages() {
        terms("Messages are numbered from 0 as they are made, by all boxes together, and never again;");
        Bank x = Bank.withBoxes(500, 500, 0);
        check.due("the first", 0, () -> x.shortNote(1, 0));
        check.due("of another box", 1, () -> x.shortNote(0, 0));
        check.due("forwarded", 2, () -> x.forward(0, 0));
        check.due("a greeting takes none", 0, () -> x.shortNote(0, 1));
        check.due("nothing takes none", -1, () -> x.note(0, 0, 0, LOUD, 0));
        check.due("what does not fit takes none", -1, () -> x.note(0, 2, 0, LOUD, 1));
        check.illegalState("nor what is not forwarded", () -> x.forward(0, 2));
        check.due("the next", 3, () -> x.shortNote(1, 0));
        for (int i = 0; i < 4; i++) {
            x.erase(i);
        }
        check.due("behind all that were erased", 4, () -> x.shortNote(0, 0));
        x.call(0, 0, 0);
        x.call(1, 0, 0);
        x.sample(0, LOUD);
        x.sample(1, LOUD);
        check.due("as they are made: by hanging up", 5, () -> x.hang(1));
        check.due("not by calling", 6, () -> x.hang(0));
        for (int i = 0; i < 4; i++) {
            int number = i;
            check.noSuchElement("never again " + number, () -> x.duration(number));
        }
        for (int i = 4; i < 30; i++) {
            x.forward(i, 1);
            x.erase(i);
        }
        check.due("numbers go beyond 16", 33, () -> x.shortNote(0, 0));
    }

    private static void sixteenMessages() {
        terms("at most 16 are there at a time.");
        Bank x = Bank.withBoxes(500, 500);
        for (int i = 0; i < 16; i++) {
            int number = i;
            check.due("message " + number, number, () -> x.shortNote(number % 2, 0));
        }
        check.due("16 are there", 16, () -> x.total(1));
        check.illegalState("no call for one more", () -> x.call(0, 0, 0));
        check.illegalState("none is forwarded", () -> x.forward(0, 1));
        x.erase(7);
        check.due("one less", 15, () -> x.total(1));
        check.due("one more", 16, () -> x.forward(0, 1));
        check.due("16 again", 16, () -> x.total(1));
        check.illegalState("and no more", () -> x.forward(0, 1));
    }

    private static void lists() {
        terms("Each is in one box, and in one of its lists: 0 new, 1 heard, 2 kept; it has a recording, and perhaps a "
                + "preface, that is heard before it.");
        Bank x = Bank.withBoxes(500, 500);
        x.note(0, 0, 0, 1000, 1);
        for (int l = 0; l < 3; l++) {
            int list = l;
            x.mark(0, list);
            check.due("in list " + list, 0, () -> x.next(0, list, 0));
            check.outOfBounds("once", () -> x.next(0, list, 1));
            check.outOfBounds("not in the one behind it", () -> x.next(0, (list + 1) % 3, 0));
            check.outOfBounds("nor in the other", () -> x.next(0, (list + 2) % 3, 0));
            check.outOfBounds("nor in the other box", () -> x.next(1, list, 0));
        }
        x.note(0, 0, 3, -100, 1);
        x.forward(0, 1);
        check.due("the last sample of the preface, and the first behind it", "[-30, -105, -94, -104, -95, -103, -96, "
                + "-103, 30, 105, 278, 661, 1049, 999, 1044, 1003]", () -> x.heard(1, 0, 16));
        check.due("none", "[30, 105]", () -> x.heard(0, 0, 2));
        check.due("its samples alone", 8, () -> x.duration(0));
    }

    private static void shared() {
        terms("Recordings are SHARED: the blocks of one are free when nobody (message, greeting or preface of a box) "
                + "has it any more.");
        Bank x = Bank.withBoxes(500, 500);
        x.note(0, 0, 0, LOUD, 5);
        x.forward(0, 1);
        x.forward(1, 0);
        check.due("three messages, the first is erased", 0, () -> x.erase(0));
        check.due("the last", 0, () -> x.erase(2));
        check.due("its blocks", "4 1", x::blocks);
        check.due("the one that was left", 2, () -> x.erase(1));
        check.due("no block", "", x::blocks);
        x.shortNote(0, 0);
        x.note(0, 0, 3, LOUD, 2);
        x.forward(3, 1);
        check.due("the box has the preface still", 0, () -> x.erase(4));
        x.forward(3, 1);
        x.forward(3, 0);
        check.due("the preface takes the place", 0, () -> x.note(0, 0, 3, LOUD, 3));
        check.due("two messages have the old one", "1 2 3", x::blocks);
        check.due("one of them is erased", 0, () -> x.erase(5));
        check.due("the recording is shared", 0, () -> x.erase(3));
        check.due("nobody has the recording nor the old preface", 2, () -> x.erase(6));
        check.due("the box has the new one", "0 0 3", x::blocks);
        x.note(0, 0, 0, QUIET, 9);
        x.erase(7);
        x.note(0, 0, 0, 1000, 1);
        check.due("in the block of a gap that nobody has", "1 0 3", x::blocks);
        check.due("a coded frame lasts", 8, () -> x.duration(8));
        check.due("and sounds", "[30, 105, 278, 661]", () -> x.heard(8, 0, 4));
        for (int k = 1; k <= 3; k++) {
            int kind = k;
            x.note(0, 1, kind, LOUD, 5);
            int free = x.total(3);
            check.due("another of kind " + kind, 0, () -> x.shortNote(1, kind));
            check.due("nobody has the old one", free + 1, () -> x.total(3));
        }
    }

    private static void uses() {
        terms("A box USES what the recordings of its messages cost, prefaces too (for each message anew), and messages "
                + "that are being spoken into it (no greetings, no preface).");
        Bank x = Bank.withBoxes(500, 500);
        for (int kind = 1; kind <= 3; kind++) {
            int spoken = kind;
            x.call(0, 0, kind);
            x.frames(0, LOUD, kind);
            check.due("kind " + spoken + " while it is spoken", 0, () -> x.used(0));
            x.hang(0);
            check.due("kind " + spoken, 0, () -> x.used(0));
        }
        x.call(0, 0, 0);
        check.due("nothing of it yet", 0, () -> x.used(0));
        x.frame(0, LOUD);
        check.due("a message while it is spoken", 1, () -> x.used(0));
        x.call(1, 0, 0);
        x.frames(1, LOUD, 2);
        check.due("and another one", 3, () -> x.used(0));
        check.due("not of the other box", 0, () -> x.used(1));
        x.hang(0);
        check.due("a message", 3, () -> x.used(0));
        x.forward(0, 1);
        check.due("with its preface", 4, () -> x.used(1));
        x.forward(0, 1);
        check.due("the same recordings for each message anew", 8, () -> x.used(1));
        x.mark(1, 2);
        check.due("in all lists", 8, () -> x.used(1));
        x.erase(1);
        check.due("one less", 4, () -> x.used(1));
        x.shortNote(0, 3);
        check.due("with the preface that it has", 4, () -> x.used(1));
        x.erase(2);
        check.due("none", 0, () -> x.used(1));
        x.hang(1);
        check.due("the other one's messages", 3, () -> x.used(0));
    }

    private static void busyLines() {
        terms("LINES are 0, 1, 2; a line is BUSY from call() to hang().");
        Bank x = Bank.withBoxes(1);
        for (int l = 0; l < 3; l++) {
            int line = l;
            check.illegalState("no sample on line " + line, () -> x.sample(line, 0));
            check.illegalState("no end on line " + line, () -> x.hang(line));
            x.call(line, 0, 0);
            check.illegalState("line " + line + " is busy", () -> x.call(line, 0, 0));
            check.due("as bits", (2 << line) - 1, () -> x.total(5));
        }
        check.due("busy too when it has ended", true, () -> x.frames(1, LOUD, 2));
        check.illegalState("no call", () -> x.call(1, 0, 0));
        check.due("the bits", 7, () -> x.total(5));
        x.hang(1);
        check.due("0 and 2", 5, () -> x.total(5));
        x.hang(0);
        check.due("2", 4, () -> x.total(5));
        x.hang(2);
        check.due("none", 0, () -> x.total(5));
        for (int l = 0; l < 3; l++) {
            int line = l;
            check.illegalState("hung up " + line, () -> x.hang(line));
        }
        check.illegalArgument("no line 3", () -> x.call(3, 0, 0));
        check.illegalArgument("no line -1", () -> x.call(-1, 0, 0));
    }

    private static void recordedFrameByFrame() {
        terms("What is spoken on it, frame by frame as soon as there are 8 samples, becomes a recording.");
        Bank x = Bank.withBoxes(500);
        x.call(2, 0, 0);
        x.samples(2, Bank.times(7, LOUD));
        check.due("7 samples take no block", 40, () -> x.total(3));
        x.sample(2, LOUD);
        check.due("8 samples do", 39, () -> x.total(3));
        x.samples(2, Bank.times(7, LOUD));
        check.due("15 samples are one frame", 1, () -> x.block(0));
        x.sample(2, LOUD);
        check.due("16 samples are two", 2, () -> x.block(0));
        check.due("the recording", 0, () -> x.hang(2));
        check.due("its length", 16, () -> x.duration(0));
        x.call(2, 0, 0);
        x.samples(2, Bank.times(3, LOUD));
        x.hang(2);
        x.call(2, 0, 0);
        x.samples(2, Bank.times(7, LOUD));
        check.due("samples of before do not count", 3, () -> x.used(0));
        x.sample(2, LOUD);
        check.due("eight new ones do", 4, () -> x.used(0));
    }

    private static void fitsIntoBlocks() {
        terms("A frame does not FIT when it would need a new block and there is none free");
        Bank none = Bank.withoutFreeBlocks();
        for (int k = 1; k <= 3; k++) {
            int kind = k;
            none.call(0, 0, kind);
            check.due("none is free, 7 samples", false, () -> none.samples(0, Bank.times(7, LOUD)));
            check.due("the first frame", true, () -> none.sample(0, LOUD));
            check.due("nothing of kind " + kind, -1, () -> none.hang(0));
        }
        check.due("the greeting of before", 8, () -> none.length(0, 0));
        Bank x = Bank.withOneFreeBlock();
        x.call(0, 0, 0);
        x.call(1, 0, 1);
        check.due("one is free: the fourth frame", false, () -> x.frames(0, LOUD, 4));
        check.due("the first on another line", true, () -> x.frame(1, LOUD));
        check.due("the fifth frame", true, () -> x.frame(0, LOUD));
        check.due("its number", 31, () -> x.hang(0));
        check.due("four frames", 32, () -> x.duration(31));
        Bank y = Bank.withOneFreeBlock();
        y.call(0, 0, 0);
        y.frames(0, LOUD, 4);
        y.sample(0, LOUD);
        check.due("the rest when it is hung up", 31, () -> y.hang(0));
        check.due("is dropped", 32, () -> y.duration(31));
    }

    private static void gapsWithoutBlocks() {
        terms("A frame does not FIT when it would need a new block and there is none free");
        Bank x = Bank.withOneFreeBlock();
        x.call(0, 0, 0);
        x.frames(0, LOUD, 3);
        check.due("the first quiet frame is the fourth entry", false, () -> x.frame(0, QUIET));
        check.due("the second would need a block", true, () -> x.frame(0, QUIET));
        check.due("so that no third one makes a gap", true, () -> x.frame(0, QUIET));
        x.hang(0);
        check.due("four frames", 32, () -> x.duration(31));
        Bank y = Bank.withOneFreeBlock();
        y.call(0, 0, 0);
        y.frames(0, LOUD, 2);
        check.due("four entries", false, () -> y.frames(0, QUIET, 2));
        check.due("a third quiet one needs none", false, () -> y.frame(0, QUIET));
        check.due("nor do more of them", false, () -> y.frames(0, QUIET, 6));
        check.due("a loud one is the fourth entry", false, () -> y.frame(0, LOUD));
        check.due("another would need a block", true, () -> y.frame(0, LOUD));
        y.hang(0);
        check.due("twelve frames", 96, () -> y.duration(31));
        Bank z = Bank.withOneFreeBlock();
        z.erase(27);
        z.call(0, 0, 0);
        z.frames(0, LOUD, 3);
        z.frames(0, QUIET, 2);
        z.call(1, 0, 1);
        z.frames(1, LOUD, 4);
        check.due("none is free", 0, () -> z.total(3));
        check.due("a gap gives one back", false, () -> z.frame(0, QUIET));
        check.due("one is free", 1, () -> z.total(3));
        check.due("another takes it", false, () -> z.frame(1, LOUD));
        check.due("a gap behind four entries grows", false, () -> z.frame(0, QUIET));
        check.due("a loud frame would need a block", true, () -> z.frame(0, LOUD));
    }

    private static void fitsIntoTheQuota() {
        terms("or, for a message, when the box would use more than its quota with it;");
        Bank x = Bank.withBoxes(0, 1, 2);
        x.call(0, 0, 0);
        check.due("quota 0, 7 samples", false, () -> x.samples(0, Bank.times(7, LOUD)));
        check.due("quota 0, a frame", true, () -> x.sample(0, LOUD));
        check.due("nothing", -1, () -> x.hang(0));
        for (int k = 1; k <= 3; k++) {
            int kind = k;
            x.call(0, 0, kind);
            check.due("quota 0, but kind " + kind, false, () -> x.frames(0, LOUD, 2));
            x.hang(0);
        }
        x.call(0, 1, 0);
        check.due("quota 1, a frame", false, () -> x.frame(0, LOUD));
        check.due("quota 1, two frames", true, () -> x.frame(0, LOUD));
        x.hang(0);
        check.due("the second is dropped", 8, () -> x.duration(0));
        x.erase(0);
        x.call(0, 1, 0);
        check.due("quota 1, a quiet frame", false, () -> x.frame(0, QUIET));
        check.due("quota 1, the second costs 1 too", true, () -> x.frame(0, QUIET));
        x.hang(0);
        x.call(0, 2, 0);
        check.due("quota 2, a gap of 8", false, () -> x.frames(0, QUIET, 8));
        check.due("quota 2, a gap of 9", true, () -> x.frame(0, QUIET));
        check.due("used", 2, () -> x.used(2));
        x.call(1, 2, 0);
        check.due("another line finds no room", true, () -> x.frame(1, LOUD));
        x.call(2, 2, 1);
        check.due("a greeting does", false, () -> x.frame(2, LOUD));
        check.due("nothing on line 1", -1, () -> x.hang(1));
        check.due("the number of the gap", 2, () -> x.hang(0));
        check.due("8 frames", 64, () -> x.duration(2));
    }

    private static void greatestQuota() {
        terms("or, for a message, when the box would use more than its quota with it;");
        Bank x = Bank.withBoxes(500);
        x.note(0, 0, 3, LOUD, 25);
        x.note(0, 0, 0, LOUD, 10);
        for (int i = 1; i < 15; i++) {
            x.forward(0, 0);
        }
        check.due("10, and 14 times 35", 500, () -> x.used(0));
        check.due("15 are there", 15, () -> x.total(1));
        check.illegalState("no more is forwarded", () -> x.forward(0, 0));
        x.call(0, 0, 0);
        check.due("no frame fits", true, () -> x.frame(0, LOUD));
        check.due("nothing", -1, () -> x.hang(0));
        x.erase(0);
        x.call(0, 0, 0);
        check.due("ten fit", false, () -> x.frames(0, LOUD, 10));
        check.due("500 again", 500, () -> x.used(0));
        check.due("an eleventh does not", true, () -> x.frame(0, LOUD));
    }

    private static void endedForGood() {
        terms("then it is dropped, and the recording has ENDED: further samples are not taken.");
        Bank x = Bank.withBoxes(2);
        x.note(0, 0, 0, LOUD, 1);
        x.call(0, 0, 0);
        x.call(1, 0, 0);
        x.frame(0, LOUD);
        check.due("no room", true, () -> x.frame(0, LOUD));
        check.due("room again", 1, () -> x.erase(0));
        check.due("but it has ended", true, () -> x.frames(0, LOUD, 2));
        check.due("a quiet sample too", true, () -> x.sample(0, QUIET));
        check.due("used", 1, () -> x.used(0));
        check.due("another line's has not", false, () -> x.frame(1, LOUD));
        check.due("its number", 1, () -> x.hang(0));
        check.due("its one frame", 8, () -> x.duration(1));
        x.erase(1);
        x.call(0, 0, 0);
        check.due("the next on the line has not ended", false, () -> x.frame(0, LOUD));
        Bank y = Bank.withOneFreeBlock();
        y.call(0, 0, 0);
        y.frames(0, LOUD, 4);
        check.due("no block", true, () -> y.frame(0, LOUD));
        check.due("a block again", 2, () -> y.erase(27));
        check.due("but it has ended", true, () -> y.frame(0, LOUD));
        y.sample(0, LOUD);
        check.due("two are free still", 2, () -> y.total(3));
        y.hang(0);
        check.due("its four frames", 32, () -> y.duration(31));
    }
}
