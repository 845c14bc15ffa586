import java.nio.charset.StandardCharsets;
import java.nio.file.Files;
import java.nio.file.Path;
import java.util.Set;
import java.util.TreeSet;
import java.util.regex.Matcher;
import java.util.regex.Pattern;

/**
 * The words that PokerEveningBounds gives as the document's stand in the document, under the heading that
 * it names, and no promise is left out: so that one can see which sentence has which test.
 */
public final class PokerEveningSentences {
    private static final Path DOCUMENT = Path.of("../shared/DOC.md");
    private static final Path TEST = Path.of("src/test/java/PokerEveningBounds.java");
    private static final int PROMISES = 32;

    public static void main(String[] args) throws Exception {
        String document = oneLine(Files.readString(DOCUMENT, StandardCharsets.UTF_8));
        Matcher says = Pattern.compile("says\\(\"([^\"]*)\", \"([^\"]*)\"\\);")
                .matcher(Files.readString(TEST, StandardCharsets.UTF_8));
        Set<String> headings = new TreeSet<>();
        int wrong = 0;
        int many = 0;
        while (says.find()) {
            many++;
            headings.add(says.group(1));
            if (!under(document, says.group(1)).contains(says.group(2))) {
                wrong++;
                System.out.println("not under \"" + says.group(1) + "\": " + says.group(2));
            }
        }
        for (int promise = 1; promise <= PROMISES; promise++) {
            if (!headings.contains("Promise " + promise)) {
                wrong++;
                System.out.println("no sentence of promise " + promise);
            }
        }
        System.out.println(many + " sentences are looked up, " + wrong + " are not as due");
        if (wrong != 0) {
            System.exit(1);
        }
    }

    private static String oneLine(String text) {
        return text.replaceAll("\\s+", " ");
    }

    /** What stands from a heading up to the next one. */
    private static String under(String document, String heading) {
        Matcher part = Pattern.compile("## " + Pattern.quote(heading) + "\\b(.*?)(?= ## |$)").matcher(document);
        return part.find() ? part.group(1) : "";
    }
}
