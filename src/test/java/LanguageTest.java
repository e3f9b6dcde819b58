import java.io.IOException;
import java.nio.file.Files;
import java.nio.file.Path;
import java.util.ArrayList;
import java.util.List;
import java.util.regex.Matcher;
import java.util.regex.Pattern;

/** A coarse look at the source for what LANGUAGE.md forbids; it is run from the project's folder. */
public final class LanguageTest {
    private static final String[] FORBIDDEN = {
        "->", "::", "\\bsynchronized\\b", "\\bassert\\b", "\\bfinally\\b", "\\bpackage\\b", "\\bprotected\\b",
        "\\bstatic\\s*\\{", "\\btry\\s*\\(", "\\bhashCode\\b", "\\bequals\\b", "\\bObject\\b", "\\bSystem\\.(?!arraycopy)",
        "\\w+Exact\\b", "\\bextends\\s+\\w*Exception\\b", "\\bMath\\.(?!max|min|abs|floorDiv|floorMod)",
    };

    public static void main(String[] args) throws IOException {
        Check check = new Check("LanguageTest");
        String whole = Files.readString(Path.of("src/main/java/MessageBank.java"));
        String code = whole.replaceAll("(?s)/\\*.*?\\*/", "").replaceAll("//[^\n]*", "").replaceAll("\"[^\"\n]*\"", "\"\"");
        for (String f : FORBIDDEN) {
            check.due("how often " + f, 0, () -> found(f, code).size());
        }
        check.due("imports", "[java.util.ArrayList, java.util.NoSuchElementException]",
                () -> found("(?<=import )[\\w.]+", code));
        check.due("classes of at most twelve", true, () -> found("\\b(class|record|enum|interface) \\w+", code).size() <= 12);
        check.due("public classes", 1, () -> found("\\bpublic final class ", code).size());
        check.due("signs beyond 127", 0, () -> found("[^\\x00-\\x7f]", whole).size());
        check.end();
    }

    private static List<String> found(String pattern, String text) {
        List<String> out = new ArrayList<>();
        Matcher m = Pattern.compile(pattern).matcher(text);
        while (m.find()) {
            out.add(m.group());
        }
        return out;
    }
}
