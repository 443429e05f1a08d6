import java.io.IOException;
import java.nio.file.Files;
import java.nio.file.Path;
import java.util.List;
import java.util.regex.Matcher;
import java.util.regex.Pattern;

/** Rules of LANGUAGE.md that the text of the class can be held against. */
public final class LanguageTest {
    private static final Path FILE = Path.of("src/main/java/Wordnet.java");
    private static final String[] RULED_OUT = {
        "\\bimport\\b", "\\bpackage\\b", "\\btry\\b", "\\bcatch\\b", "\\bfinally\\b", "\\bsynchronized\\b", "\\bassert\\b",
        "->", "::", "Exact\\b", "\\bSystem\\.(?!arraycopy)", "\\bInteger\\.M", "\\bThread\\b", "\\bRandom\\b", "\\bvar\\b",
        "\\bstatic\\s*\\{", "\\binstanceof\\b", "\\byield\\b", "[^\\x00-\\x7F]", "\"\\s*\\+|\\+\\s*\""
    };
    private static final Check CHECK = new Check();

    public static void main(String[] args) throws IOException {
        String code = Files.readString(FILE).replaceAll("(?s)/\\*.*?\\*/", "").replaceAll("//[^\n]*", "");
        for (String words : RULED_OUT) {
            Matcher found = Pattern.compile(words).matcher(code);
            CHECK.same("ruled out, " + words, found.find() ? found.group() : "", "");
        }
        int classes = (int) Pattern.compile("\\b(class|record|enum|interface) [A-Z]").matcher(code).results().count();
        CHECK.same(classes + " classes are not too many", classes <= 12, true);
        methodsAreShort(Files.readAllLines(FILE));
        CHECK.end();
    }

    /** A method ends with a brace that stands as deep as its first line. */
    private static void methodsAreShort(List<String> lines) {
        Pattern head = Pattern.compile("( {4}| {8})[a-zA-Z].*\\(.*\\).*\\{");
        for (int k = 0; k < lines.size(); k++) {
            Matcher found = head.matcher(lines.get(k));
            if (!found.matches()) {
                continue;
            }
            int end = k;
            while (end < lines.size() && !lines.get(end).equals(found.group(1) + "}")) {
                end++;
            }
            CHECK.same("short: " + lines.get(k).trim(), end - k < 60, true);
            int parameters = lines.get(k).replaceAll("\\).*", "").split(",").length;
            CHECK.same("few parameters: " + lines.get(k).trim(), parameters <= 7, true);
        }
    }
}
