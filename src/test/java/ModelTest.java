import java.util.Random;

/** Long runs of made-up calls (the same ones each time), each answer beside the model's. */
public final class ModelTest {
    private static final int RUNS = 1500;
    private static final int CALLS = 512;
    private static final int[] EDGES = {-1, 0, 1, 2, 3, 4, 39, 40, 48, 49, 100, 101, 500, 501, 1 << 30, -1 << 31, ~(1 << 31)};

    private final Check check;
    private final Random chance;
    private final int mood;
    private final MessageBank bank = new MessageBank();
    private final Model model = new Model();
    private int calls = 0;

    private ModelTest(Check check, int seed) {
        this.check = check;
        this.chance = new Random(seed);
        this.mood = seed % 5;
        check.part("seed " + seed);
    }

    public static void main(String[] args) {
        Check check = new Check("ModelTest");
        int[] seen = new int[8];
        for (int seed = 0; seed < RUNS; seed++) {
            ModelTest run = new ModelTest(check, seed);
            run.go();
            for (int i = 0; i < seen.length; i++) {
                seen[i] += run.model.seen[i];
            }
        }
        check.part("rare things");
        for (int i = 0; i < seen.length; i++) {
            int times = seen[i];
            System.out.println("rare thing " + i + ": " + times + " times");
            check.due("rare thing " + i + " happened", true, () -> times > 0);
        }
        check.end();
    }

    private void go() {
        int boxes = 1 + pick(4);
        for (int i = 0; i < boxes; i++) {
            int quota = mood == 1 ? pick(12) : mood == 4 ? 500 : pick(3) == 0 ? pick(20) : pick(501);
            ask("box", () -> bank.box(quota), () -> model.box(quota));
        }
        while (calls < CALLS - 80) {
            act();
        }
        lookAtBlocks();
        while (calls < CALLS) {
            lookAtSounds();
        }
    }

    private int pick(int n) {
        return chance.nextInt(n);
    }

    private void ask(String what, Check.Call real, Check.Call due) {
        if (calls < CALLS) {
            calls++;
            check.due("call " + calls + ", " + what, Check.answer(due), real);
        }
    }

    private int sometimesStrange(int usual) {
        return pick(40) == 0 ? EDGES[pick(EDGES.length)] : usual;
    }

    private int someBox() {
        return sometimesStrange(pick(Math.max(1, model.quotas.size())));
    }

    private int someNote() {
        if (model.notes.isEmpty() || pick(30) == 0) {
            return sometimesStrange(pick(model.made + 2));
        }
        return model.notes.get(pick(model.notes.size())).id;
    }

    private void act() {
        if (mood == 4 && pick(3) > 0) {
            fill();
            return;
        }
        int what = pick(40);
        if (what < 14) {
            speak();
        } else if (what < 18) {
            begin(pick(3));
        } else if (what < 22) {
            int line = sometimesStrange(pick(3));
            ask("hang " + line, () -> bank.hang(line), () -> model.hang(line));
        } else if (what < 26) {
            forward();
        } else if (what < 28) {
            erase();
        } else if (what < 30) {
            int note = someNote();
            int list = sometimesStrange(pick(3));
            ask("mark " + note + " " + list, () -> bank.mark(note, list), () -> model.mark(note, list));
        } else if (what < 32) {
            int n = sometimesStrange(pick(4) == 0 ? 100 : pick(3));
            ask("pack " + n, () -> bank.pack(n), () -> model.pack(n));
        } else if (what < 36) {
            look();
        } else if (what < 37) {
            int quota = EDGES[pick(EDGES.length)];
            ask("box " + quota, () -> bank.box(quota), () -> model.box(quota));
        } else {
            lookAtSounds();
        }
    }

    private void begin(int line) {
        begin(sometimesStrange(line), someBox(), sometimesStrange(pick(2) == 0 ? 0 : pick(4)));
    }

    private void begin(int line, int box, int kind) {
        ask("call " + line + " " + box + " " + kind, () -> {
            bank.call(line, box, kind);
            return "";
        }, () -> {
            model.call(line, box, kind);
            return "";
        });
    }

    private void speak() {
        int line = sometimesStrange(pick(3));
        if (line >= 0 && line < 3 && model.speakers[line] == null && pick(10) > 0) {
            begin(line);
        }
        int frames = mood == 2 ? 1 + pick(9) : 1 + pick(2);
        int samples = pick(5) == 0 ? pick(8) : 8 * frames;
        int loudness = pick(mood == 2 || mood == 1 ? 3 : 6);
        for (int i = 0; i < samples; i++) {
            int x = loudness < 2 ? pick(97) - 48 : soundOf(loudness);
            ask("sample " + line + " " + x, () -> bank.sample(line, x), () -> model.sample(line, x));
        }
    }

    private int soundOf(int loudness) {
        if (loudness == 2) {
            return pick(131) - 65;
        }
        if (loudness == 3) {
            return pick(3) == 0 ? chance.nextInt() : pick(2) * 70000 - 35000;
        }
        return (pick(2) * 2 - 1) * (1 << pick(17)) + pick(5);
    }

    /** Notes with a recording and a preface of their own take the most blocks for the fewest calls. */
    private void fill() {
        int line = pick(3);
        int box = pick(model.quotas.size());
        if (pick(4) == 0) {
            speakShortly(line, box, 1 + pick(2));
            return;
        }
        speakShortly(line, box, 3);
        speakShortly(line, box, 0);
        int note = model.made - 1;
        int to = pick(model.quotas.size());
        ask("forward " + note + " " + to, () -> bank.forward(note, to), () -> model.forward(note, to));
        ask("erase " + note, () -> bank.erase(note), () -> model.erase(note));
    }

    private void speakShortly(int line, int box, int kind) {
        int x = pick(3) * 60;
        if (model.speakers[line] == null) {
            begin(line, box, kind);
        }
        ask("sample " + line + " " + x, () -> bank.sample(line, x), () -> model.sample(line, x));
        ask("hang " + line, () -> bank.hang(line), () -> model.hang(line));
    }

    private void forward() {
        if (mood == 4 && pick(8) > 0) {
            return;
        }
        int note = someNote();
        int box = someBox();
        ask("forward " + note + " " + box, () -> bank.forward(note, box), () -> model.forward(note, box));
    }

    private void erase() {
        if (mood == 3 || mood == 4 && pick(8) > 0) {
            return;
        }
        int note = someNote();
        ask("erase " + note, () -> bank.erase(note), () -> model.erase(note));
    }

    private void look() {
        int what = sometimesStrange(pick(7));
        ask("total " + what, () -> bank.total(what), () -> model.total(what));
        int box = someBox();
        ask("used " + box, () -> bank.used(box), () -> model.used(box));
        ask("quota " + box, () -> bank.quota(box), () -> model.quota(box));
        int b = sometimesStrange(pick(40));
        ask("block " + b, () -> bank.block(b), () -> model.block(b));
        ask("step " + b, () -> bank.step(b), () -> model.step(b));
        int list = sometimesStrange(pick(3));
        int k = sometimesStrange(pick(4));
        ask("next " + box + " " + list + " " + k, () -> bank.next(box, list, k), () -> model.next(box, list, k));
    }

    private void lookAtSounds() {
        int note = someNote();
        ask("duration " + note, () -> bank.duration(note), () -> model.duration(note));
        int i = sometimesStrange(pick(64));
        ask("play " + note + " " + i, () -> bank.play(note, i), () -> model.play(note, i));
        int box = someBox();
        int which = sometimesStrange(pick(3));
        ask("length " + box + " " + which, () -> bank.length(box, which), () -> model.length(box, which));
        int at = sometimesStrange(pick(24));
        ask("greeting " + box + " " + which + " " + at,
                () -> bank.greeting(box, which, at), () -> model.greeting(box, which, at));
    }

    private void lookAtBlocks() {
        for (int b = 0; b < 40; b++) {
            int number = b;
            ask("block " + number, () -> bank.block(number), () -> model.block(number));
        }
        for (int w = -1; w < 7; w++) {
            int what = w;
            ask("total " + what, () -> bank.total(what), () -> model.total(what));
        }
    }
}
