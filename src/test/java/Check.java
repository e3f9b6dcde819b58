import java.io.IOException;
import java.io.UncheckedIOException;
import java.nio.file.Files;
import java.nio.file.Path;
import java.util.Arrays;

/** Counts the answers that are not due, and tells them. */
final class Check {
    interface Call {
        Object run();
    }

    private static final Path DOCUMENT = Path.of("../shared/DOC.md");

    private final String name;
    private int asked = 0;
    private int wrong = 0;
    private String part = "";

    Check(String name) {
        this.name = name;
    }

    void part(String what) {
        part = what;
    }

    /** What is asked from here on is asked for these words, which must stand in that section of the document. */
    void sentence(String section, String words) {
        part = section + ", \"" + words + "\"";
        due("the words stand in the document", true, () -> sectionOf(section).contains(words));
    }

    private static String sectionOf(String title) {
        try {
            for (String section : Files.readString(DOCUMENT).split("\n## ")) {
                if (section.startsWith(title)) {
                    return section.replaceAll("\\s+", " ");
                }
            }
            return "";
        } catch (IOException e) {
            throw new UncheckedIOException(e);
        }
    }

    /** A row of numbers as a text, so that rows can be due. */
    static String row(int... numbers) {
        return Arrays.toString(numbers);
    }

    /** What a call answers, as a text; an exception as "throws.Name". */
    static String answer(Call call) {
        try {
            return String.valueOf(call.run());
        } catch (RuntimeException e) {
            return "throws." + e.getClass().getSimpleName();
        }
    }

    void due(String what, Object want, Call call) {
        String got = answer(call);
        asked++;
        if (!got.equals(String.valueOf(want))) {
            wrong++;
            System.out.println(name + ", " + part + ": " + what + " answered " + got + ", due is " + want);
        }
    }

    void noSuchElement(String what, Call call) {
        due(what, "throws.NoSuchElementException", call);
    }

    void illegalArgument(String what, Call call) {
        due(what, "throws.IllegalArgumentException", call);
    }

    void illegalState(String what, Call call) {
        due(what, "throws.IllegalStateException", call);
    }

    void outOfBounds(String what, Call call) {
        due(what, "throws.IndexOutOfBoundsException", call);
    }

    void end() {
        System.out.println(name + ": " + asked + " answers, " + wrong + " of them not due");
        if (wrong != 0 || asked == 0) {
            System.exit(1);
        }
    }
}
