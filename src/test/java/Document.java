import java.io.IOException;
import java.io.UncheckedIOException;
import java.nio.file.Files;
import java.nio.file.Path;
import java.util.ArrayList;
import java.util.BitSet;
import java.util.List;
import java.util.regex.Matcher;
import java.util.regex.Pattern;

/** The document's terms (section 0) and promises (1 to 24), and which of their words have been quoted. */
final class Document {
    private static final Path PATH = Path.of("../shared/DOC.md");
    private static final int PROMISES = 24;

    private final boolean isHere = Files.exists(PATH);
    private final List<String> sections = new ArrayList<>();
    private final List<BitSet> quoted = new ArrayList<>();

    Document() {
        if (!isHere) {
            System.out.println(PATH + " is not here, so nobody knows what it says");
            return;
        }
        String text = text();
        sections.add(between(text, "## Terms ", " ## Promise 1:"));
        for (int promise = 1; promise <= PROMISES; promise++) {
            String next = promise < PROMISES ? " ## Promise " + (promise + 1) + ":" : " ## Not promised";
            sections.add(between(text, "## Promise " + promise + ": ", next));
        }
        for (int section = 0; section <= PROMISES; section++) {
            quoted.add(new BitSet());
        }
    }

    private static String text() {
        try {
            return Files.readString(PATH).replaceAll("\\s+", " ");
        } catch (IOException e) {
            throw new UncheckedIOException(e);
        }
    }

    private static String between(String text, String start, String end) {
        int from = text.indexOf(start);
        int to = text.indexOf(end, Math.max(0, from));
        if (from < 0 || to < 0) {
            throw new IllegalStateException(PATH + " has no part between " + start + " and " + end);
        }
        return text.substring(from + start.length(), to);
    }

    /** Whether the words stand in the section, as far as can be known. */
    boolean quote(int section, String words) {
        if (!isHere) {
            return true;
        }
        String text = sections.get(section);
        int at = text.indexOf(words);
        boolean stands = at >= 0;
        while (at >= 0) {
            quoted.get(section).set(at, at + words.length());
            at = text.indexOf(words, at + 1);
        }
        return stands;
    }

    /** A promise's heading and the head of its method are no sentences. */
    void quoteHeads() {
        Pattern head = Pattern.compile("^[^`]*`[^`]*`: ");
        for (int section = 1; section < sections.size(); section++) {
            Matcher matcher = head.matcher(sections.get(section));
            if (matcher.find()) {
                quoted.get(section).set(0, matcher.end());
            }
        }
    }

    /** The runs of words that nobody quoted. */
    List<String> notQuoted() {
        List<String> left = new ArrayList<>();
        for (int section = 0; section < sections.size(); section++) {
            String text = sections.get(section);
            int from = quoted.get(section).nextClearBit(0);
            while (from < text.length()) {
                int to = quoted.get(section).nextSetBit(from);
                to = to < 0 ? text.length() : to;
                if (text.substring(from, to).matches(".*\\w.*")) {
                    left.add(section + ": " + text.substring(from, to).trim());
                }
                from = quoted.get(section).nextClearBit(to);
            }
        }
        return left;
    }
}
