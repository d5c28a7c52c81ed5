import java.io.IOException;
import java.nio.file.Files;
import java.nio.file.Path;
import java.util.ArrayList;
import java.util.List;
import java.util.regex.Matcher;
import java.util.regex.Pattern;

/** The words of ../shared/DOC.md, so that a test that names a sentence names one that stands there. */
final class Document {
    static final int PROMISES = 28;

    private static final Path PLACE = Path.of("../shared/DOC.md");
    /** A point that ends a sentence: no part of "1 .. 8". */
    private static final Pattern SENTENCE_END = Pattern.compile("(?<=[^.\\s]\\.\\)?)\\s+");

    private final String whole;

    Document() throws IOException {
        whole = Files.isReadable(PLACE) ? Files.readString(PLACE) : "";
    }

    boolean isThere() {
        return !whole.isEmpty();
    }

    /** What stands under "Promise n", without the call's own line. */
    String promise(int number) {
        Matcher found = Pattern.compile("(?ms)^## Promise " + number + ": .*?`: (.*?)(?=^## |\\z)").matcher(whole);
        return found.find() ? plain(found.group(1)) : "";
    }

    /** The Terms, with their first sentence, which begins at the end of "What it is". */
    String terms() {
        Matcher begin = Pattern.compile("======== 1 ([^\n]*)").matcher(whole);
        return begin.find() ? plain(begin.group(1) + " " + section("Terms")) : "";
    }

    String whatItIs() {
        return plain(section("What it is"));
    }

    private String section(String heading) {
        Matcher found = Pattern.compile("(?ms)^## " + heading + "$(.*?)(?=^## |\\z)").matcher(whole);
        return found.find() ? found.group(1) : "";
    }

    private static String plain(String text) {
        return text.replace("```text", " ").replace("```", " ").replaceAll("======== \\d", " ")
                .replaceAll("\\s+", " ").trim();
    }

    static List<String> sentences(String text) {
        List<String> all = new ArrayList<>();
        for (String one : SENTENCE_END.split(text)) {
            if (!one.isBlank()) {
                all.add(one);
            }
        }
        return all;
    }
}
