import java.io.IOException;
import java.nio.file.Files;
import java.nio.file.Path;
import java.util.ArrayList;
import java.util.List;
import java.util.regex.Matcher;
import java.util.regex.Pattern;

/** The sentences of the document that tests stand for. */
final class Sentences {
    /** What a sentence has that names a boundary case. */
    private static final Pattern EDGE = Pattern.compile("[0-9] to [0-9]|never|at most|at least|or more|or less|fewer|less than"
            + "|at first|forgotten|refused|would be|wrapping|least|greatest"
            + "|\\b(none|any|all|empty|UNKNOWN|OUTSIDE|STATE|FULL|NONE|LOST)\\b");

    private static final List<String> quoted = new ArrayList<>();

    private Sentences() {
    }

    /** What is tested from here on stands for this sentence. */
    static void test(String sentence) {
        quoted.add(sentence);
        Due.about(sentence);
    }

    /** Each quoted sentence stands once in the document, and none of it that names a boundary case is left without a test. */
    static void compareWith(Path document) throws IOException {
        Due.about("the document");
        if (!Files.isReadable(document)) {
            System.out.println("not compared with the document: " + document + " can't be read");
            return;
        }
        String whole = plain(Files.readString(document));
        String rest = whole;
        for (String sentence : quoted) {
            int first = whole.indexOf(sentence);
            Due.holds("it has once: " + sentence, first >= 0 && whole.indexOf(sentence, first + 1) < 0);
            rest = rest.replace(sentence, "|");
        }
        Matcher edge = EDGE.matcher(rest);
        while (edge.find()) {
            int from = Math.max(0, edge.start() - 60);
            int to = Math.min(rest.length(), edge.end() + 60);
            Due.holds("a test for: .. " + rest.substring(from, to) + " ..", false);
        }
    }

    /** The document's terms and promises in one line, without the signs that only lay it out. */
    private static String plain(String document) {
        String layout = document.replaceAll("(?m)^```.*$", " ").replaceAll("(?m)^(#+|====) .*?(?=[A-Z]|$)", " ");
        String line = layout.replace("`", "").replaceAll("\\s+", " ");
        int from = Math.max(0, line.indexOf("An object is used"));
        int to = line.indexOf("How the state is held inside");
        return line.substring(from, to < from ? line.length() : to);
    }
}
