/** Each refused call: what it throws where more than one is so, and that nothing is changed by it. */
public final class RefusedTest {
    interface State {
        Bank made();
    }

    interface Refused {
        void on(Bank x);
    }

    private static final String NO_ELEMENT = "throws.NoSuchElementException";
    private static final String ARGUMENT = "throws.IllegalArgumentException";
    private static final String STATE = "throws.IllegalStateException";
    private static final String BOUNDS = "throws.IndexOutOfBoundsException";
    private static final Check check = new Check("RefusedTest");

    private final State state;
    private final String untouched;

    private RefusedTest(State state) {
        this.state = state;
        this.untouched = after(state.made());
    }

    public static void main(String[] args) {
        check.sentence("Terms", "Methods throw what they list, the first that is so, in the order in which it is told; a "
                + "call that throws changes nothing.");
        RefusedTest some = new RefusedTest(RefusedTest::someAreThere);
        some.speaking();
        some.messages();
        some.looking();
        RefusedTest full = new RefusedTest(RefusedTest::allAreThere);
        full.whenAllAreThere();
        check.end();
    }

    private void refused(String due, String what, Refused call) {
        Bank x = state.made();
        check.due(what, due, () -> {
            call.on(x);
            return "nothing";
        });
        check.due("what is so behind " + what, untouched, () -> after(x));
    }

    /**
     * Two boxes; message 2 is erased; on line 0 a message is in the middle of a frame behind a quiet one,
     * on line 1 a message has ended at the quota of box 1, line 2 is not busy.
     */
    private static Bank someAreThere() {
        Bank x = Bank.withBoxes(500, 2);
        x.note(0, 0, 1, 1000, 1);
        x.note(0, 0, 0, 1000, 2);
        x.note(0, 0, 3, -1000, 1);
        x.forward(0, 0);
        x.forward(0, 0);
        x.mark(1, 2);
        x.erase(2);
        x.note(1, 1, 0, 1000, 1);
        x.call(1, 1, 0);
        x.frames(1, 1000, 2);
        x.call(0, 0, 0);
        x.frame(0, 1000);
        x.frame(0, 0);
        x.samples(0, 7, 8, 9);
        return x;
    }

    /** Four boxes, the first of quota 0, and 14 messages; on lines 0 and 1 two more are being spoken. */
    private static Bank allAreThere() {
        Bank x = Bank.withBoxes(0, 500, 500, 500);
        x.note(0, 1, 0, 1000, 1);
        for (int i = 1; i < 14; i++) {
            x.forward(0, 1 + i % 3);
        }
        x.call(0, 2, 0);
        x.samples(0, 1000, -1000, 3);
        x.call(1, 0, 0);
        x.frame(1, 1000);
        return x;
    }

    private void speaking() {
        refused(ARGUMENT, "box -1", x -> x.box(-1));
        refused(ARGUMENT, "box 501", x -> x.box(501));
        refused(NO_ELEMENT, "call: box", x -> x.call(2, 2, 0));
        refused(NO_ELEMENT, "call: box -1", x -> x.call(2, -1, 0));
        refused(NO_ELEMENT, "call: box before line", x -> x.call(3, 2, 0));
        refused(NO_ELEMENT, "call: box before kind", x -> x.call(2, 2, 4));
        refused(NO_ELEMENT, "call: box before line and kind", x -> x.call(-1, -1, -1));
        refused(NO_ELEMENT, "call: box before busy", x -> x.call(0, 2, 0));
        refused(ARGUMENT, "call: line", x -> x.call(3, 0, 0));
        refused(ARGUMENT, "call: line -1", x -> x.call(-1, 0, 0));
        refused(ARGUMENT, "call: kind", x -> x.call(2, 0, 4));
        refused(ARGUMENT, "call: kind -1", x -> x.call(2, 0, -1));
        refused(ARGUMENT, "call: line and kind", x -> x.call(3, 0, 4));
        refused(ARGUMENT, "call: kind before busy", x -> x.call(0, 0, 4));
        refused(ARGUMENT, "call: kind -1 before busy", x -> x.call(1, 0, -1));
        refused(STATE, "call: busy", x -> x.call(0, 1, 0));
        refused(STATE, "call: busy, a greeting", x -> x.call(0, 1, 1));
        refused(STATE, "call: busy with what has ended", x -> x.call(1, 0, 3));
        refused(ARGUMENT, "sample: line", x -> x.sample(3, 0));
        refused(ARGUMENT, "sample: line -1", x -> x.sample(-1, 0));
        refused(STATE, "sample: not busy", x -> x.sample(2, 0));
        refused(ARGUMENT, "hang: line", x -> x.hang(3));
        refused(ARGUMENT, "hang: line -1", x -> x.hang(-1));
        refused(STATE, "hang: not busy", x -> x.hang(2));
    }

    private void messages() {
        refused(NO_ELEMENT, "next: box", x -> x.next(2, 0, 0));
        refused(NO_ELEMENT, "next: box before list", x -> x.next(2, 3, 0));
        refused(NO_ELEMENT, "next: box before k", x -> x.next(-1, 0, -1));
        refused(NO_ELEMENT, "next: box before list and k", x -> x.next(2, -1, 9));
        refused(ARGUMENT, "next: list", x -> x.next(0, 3, 0));
        refused(ARGUMENT, "next: list before k", x -> x.next(0, 3, 9));
        refused(ARGUMENT, "next: list -1 before k -1", x -> x.next(0, -1, -1));
        refused(BOUNDS, "next: k", x -> x.next(0, 0, 1));
        refused(BOUNDS, "next: k -1", x -> x.next(0, 2, -1));
        refused(BOUNDS, "next: an empty list", x -> x.next(0, 1, 0));
        refused(NO_ELEMENT, "mark: erased", x -> x.mark(2, 1));
        refused(NO_ELEMENT, "mark: not made yet", x -> x.mark(4, 1));
        refused(NO_ELEMENT, "mark: message before list", x -> x.mark(2, 3));
        refused(NO_ELEMENT, "mark: message -1 before list -1", x -> x.mark(-1, -1));
        refused(ARGUMENT, "mark: list", x -> x.mark(0, 3));
        refused(ARGUMENT, "mark: list -1", x -> x.mark(1, -1));
        refused(NO_ELEMENT, "erase: erased", x -> x.erase(2));
        refused(NO_ELEMENT, "erase: not made yet", x -> x.erase(4));
        refused(NO_ELEMENT, "erase: -1", x -> x.erase(-1));
        refused(NO_ELEMENT, "forward: erased", x -> x.forward(2, 0));
        refused(NO_ELEMENT, "forward: box", x -> x.forward(0, 2));
        refused(NO_ELEMENT, "forward: box -1", x -> x.forward(0, -1));
        refused(NO_ELEMENT, "forward: message and box", x -> x.forward(4, 2));
        refused(NO_ELEMENT, "forward: message before quota", x -> x.forward(2, 1));
        refused(STATE, "forward: quota", x -> x.forward(0, 1));
    }

    private void looking() {
        refused(NO_ELEMENT, "duration: erased", x -> x.duration(2));
        refused(NO_ELEMENT, "duration: -1", x -> x.duration(-1));
        refused(NO_ELEMENT, "play: erased", x -> x.play(2, 0));
        refused(NO_ELEMENT, "play: message before sample", x -> x.play(4, -1));
        refused(BOUNDS, "play: behind the last", x -> x.play(0, 16));
        refused(BOUNDS, "play: -1", x -> x.play(1, -1));
        refused(NO_ELEMENT, "length: box", x -> x.length(2, 0));
        refused(NO_ELEMENT, "length: box before which", x -> x.length(-1, 3));
        refused(ARGUMENT, "length: which", x -> x.length(0, 3));
        refused(ARGUMENT, "length: which -1", x -> x.length(0, -1));
        refused(NO_ELEMENT, "greeting: box", x -> x.greeting(2, 0, 0));
        refused(NO_ELEMENT, "greeting: box before which", x -> x.greeting(2, 3, 0));
        refused(NO_ELEMENT, "greeting: box before sample", x -> x.greeting(-1, 0, -1));
        refused(NO_ELEMENT, "greeting: box before which and sample", x -> x.greeting(2, -1, 9));
        refused(ARGUMENT, "greeting: which", x -> x.greeting(0, 3, 0));
        refused(ARGUMENT, "greeting: which before sample", x -> x.greeting(0, 3, 8));
        refused(ARGUMENT, "greeting: which -1 before sample -1", x -> x.greeting(0, -1, -1));
        refused(BOUNDS, "greeting: behind the last", x -> x.greeting(0, 0, 8));
        refused(BOUNDS, "greeting: -1", x -> x.greeting(0, 2, -1));
        refused(BOUNDS, "greeting: none", x -> x.greeting(0, 1, 0));
        refused(NO_ELEMENT, "used: box", x -> x.used(2));
        refused(NO_ELEMENT, "used: box -1", x -> x.used(-1));
        refused(NO_ELEMENT, "quota: box", x -> x.quota(2));
        refused(NO_ELEMENT, "quota: box -1", x -> x.quota(-1));
        refused(ARGUMENT, "pack: -1", x -> x.pack(-1));
        refused(ARGUMENT, "pack: 101", x -> x.pack(101));
        refused(BOUNDS, "block: -1", x -> x.block(-1));
        refused(BOUNDS, "block: 40", x -> x.block(40));
        refused(BOUNDS, "step: -1", x -> x.step(-1));
        refused(BOUNDS, "step: 49", x -> x.step(49));
    }

    private void whenAllAreThere() {
        refused(STATE, "a fifth box", x -> x.box(9));
        refused(ARGUMENT, "a fifth box, quota before number", x -> x.box(501));
        refused(ARGUMENT, "a fifth box, quota -1 before number", x -> x.box(-1));
        refused(STATE, "a call for a seventeenth", x -> x.call(2, 3, 0));
        refused(STATE, "on a busy line too", x -> x.call(0, 3, 0));
        refused(NO_ELEMENT, "box before sixteen", x -> x.call(2, 4, 0));
        refused(ARGUMENT, "line before sixteen", x -> x.call(3, 3, 0));
        refused(ARGUMENT, "kind before sixteen", x -> x.call(2, 3, 4));
        refused(STATE, "forward a seventeenth", x -> x.forward(0, 1));
        refused(STATE, "beyond the quota too", x -> x.forward(0, 0));
        refused(NO_ELEMENT, "message before sixteen", x -> x.forward(14, 1));
        refused(NO_ELEMENT, "message before quota", x -> x.forward(-1, 0));
        refused(NO_ELEMENT, "box before sixteen, by forwarding", x -> x.forward(0, 4));
    }

    /** All that can be seen, then how it goes on on all lines, and all that can be seen then. */
    private static String after(Bank x) {
        StringBuilder text = new StringBuilder();
        look(x, text);
        add(text, () -> x.samples(0, 1, 2, 3, 4, 5));
        add(text, () -> x.samples(0, 1000, 2000, 3000));
        add(text, () -> x.sample(1, 0));
        add(text, () -> x.hang(0));
        add(text, () -> x.call(2, 1, 0));
        add(text, () -> x.samples(2, 1000, 2000));
        add(text, () -> x.hang(1));
        add(text, () -> x.hang(2));
        add(text, () -> x.box(3));
        look(x, text);
        return text.toString();
    }

    private static void look(Bank x, StringBuilder text) {
        for (int w = 0; w < 6; w++) {
            int what = w;
            add(text, () -> x.total(what));
        }
        add(text, x::blocks);
        int boxes = x.total(0);
        for (int b = 0; b < boxes; b++) {
            int box = b;
            add(text, () -> x.quota(box));
            add(text, () -> x.used(box));
            for (int w = 0; w < 3; w++) {
                int which = w;
                add(text, () -> x.length(box, which));
                add(text, () -> x.greeting(box, which, 7));
                addList(x, box, which, text);
            }
        }
        for (int number : new int[] {0, 1, 3, 4, 5, 13, 14, 15}) {
            add(text, () -> x.duration(number));
            for (int i = 7; i < 32; i += 8) {
                int at = i;
                add(text, () -> x.play(number, at));
            }
        }
    }

    private static void addList(Bank x, int box, int list, StringBuilder text) {
        String number = "";
        for (int k = 0; !number.startsWith("throws"); k++) {
            int at = k;
            number = Check.answer(() -> x.next(box, list, at));
            text.append(number).append(' ');
        }
    }

    private static void add(StringBuilder text, Check.Call call) {
        text.append(Check.answer(call)).append(' ');
    }
}
