import java.io.IOException;
import java.nio.file.Files;
import java.nio.file.Path;
import java.util.Map;
import java.util.TreeMap;

/**
 * The document by its sections, and how much of each a test has quoted. Where the document is not at
 * hand nothing can be looked up, and every quote is taken as it is: the answers are tested all the same.
 */
final class Document {
    private static final Path PLACE = Path.of("../shared/DOC.md");

    private final boolean atHand = Files.isReadable(PLACE);
    private final Map<String, String> sections = new TreeMap<>();
    private final Map<String, boolean[]> quoted = new TreeMap<>();

    Document() {
        for (String part : readAll().split("(?m)^## ")) {
            int end = part.indexOf('\n');
            String title = part.substring(0, Math.max(0, end)).replaceFirst(":.*", "");
            String words = plainWords(part.substring(end + 1));
            sections.put(title, words);
            quoted.put(title, new boolean[words.length()]);
        }
    }

    private String readAll() {
        if (!atHand) {
            System.out.println("no quotes are looked up: there is no " + PLACE);
            return "";
        }
        try {
            return Files.readString(PLACE);
        } catch (IOException e) {
            throw new IllegalStateException("the document can not be read at " + PLACE, e);
        }
    }

    /** What tells a reader where he is (signatures, fences, headings of the interface) asks for no test. */
    private static String plainWords(String part) {
        return part.replaceAll("(?m)^```.*$", " ").replaceAll("(?m)^Ahead of the calls .*$", " ")
            .replaceAll("(?m)^======== \\d ", " ").replaceAll("(?m)^`[^`]*`: ", " ").replaceAll("\\s+", " ").trim();
    }

    /** Whether the words stand in the section; if so they count as quoted, wherever they stand in it. */
    boolean quote(String section, String words) {
        String all = sections.getOrDefault(section, "");
        int at = all.indexOf(words);
        boolean stands = at >= 0 || !atHand;
        while (at >= 0) {
            for (int i = at; i < at + words.length(); i++) {
                quoted.get(section)[i] = true;
            }
            at = all.indexOf(words, at + words.length());
        }
        return stands;
    }

    /** What of a section no test has quoted; empty if nothing is left but signs. */
    String unquoted(String section) {
        String all = sections.get(section);
        if (all == null) {
            return atHand ? "there is no such section" : "";
        }
        StringBuilder left = new StringBuilder();
        for (int i = 0; i < all.length(); i++) {
            left.append(quoted.get(section)[i] ? ' ' : all.charAt(i));
        }
        String rest = left.toString().trim();
        return rest.matches(".*[A-Za-z0-9].*") ? rest : "";
    }
}
