/** Counts the answers that are not due, and tells them. */
final class Check {
    interface Call {
        Object run();
    }

    private final String name;
    private int asked = 0;
    private int wrong = 0;
    private String part = "";

    Check(String name) {
        this.name = name;
    }

    void part(String what) {
        part = what;
    }

    /** What a call answers, as a text; an exception as "throws.Name". */
    static String answer(Call call) {
        try {
            return String.valueOf(call.run());
        } catch (RuntimeException e) {
            return "throws." + e.getClass().getSimpleName();
        }
    }

    void due(String what, Object want, Call call) {
        String got = answer(call);
        asked++;
        if (!got.equals(String.valueOf(want))) {
            wrong++;
            System.out.println(name + ", " + part + ": " + what + " answered " + got + ", due is " + want);
        }
    }

    void noSuchElement(String what, Call call) {
        due(what, "throws.NoSuchElementException", call);
    }

    void illegalArgument(String what, Call call) {
        due(what, "throws.IllegalArgumentException", call);
    }

    void illegalState(String what, Call call) {
        due(what, "throws.IllegalStateException", call);
    }

    void outOfBounds(String what, Call call) {
        due(what, "throws.IndexOutOfBoundsException", call);
    }

    void end() {
        System.out.println(name + ": " + asked + " answers, " + wrong + " of them not due");
        if (wrong != 0 || asked == 0) {
            System.exit(1);
        }
    }
}
