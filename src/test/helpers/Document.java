import java.io.IOException;
import java.nio.charset.StandardCharsets;
import java.nio.file.Files;
import java.nio.file.Path;
import java.util.ArrayList;
import java.util.LinkedHashMap;
import java.util.List;
import java.util.Map;

/** DOC.md by its headings, and which of its words tests have quoted. */
final class Document {
    private static final Path FILE = Path.of("../shared/DOC.md");

    private static final class Section {
        final StringBuilder text = new StringBuilder();
        boolean[] quoted = new boolean[0];
    }

    private final Map<String, Section> sections = new LinkedHashMap<>();

    Document() throws IOException {
        Section section = new Section();
        for (String line : Files.readAllLines(FILE, StandardCharsets.UTF_8)) {
            if (line.startsWith("## ")) {
                section = new Section();
                sections.put(nameOf(line.substring(3)), section);
            } else if (isTold(line)) {
                section.text.append(withoutSignature(line)).append('\n');
            }
        }
        for (Section s : sections.values()) {
            s.quoted = new boolean[s.text.length()];
        }
    }

    /** Whether the words stand in that section, and no test has quoted them there yet. */
    boolean quote(String place, String words) {
        Section section = sections.get(place);
        int at = section == null ? -1 : section.text.indexOf(words);
        while (at >= 0) {
            if (!isQuoted(section, at, words.length())) {
                for (int i = 0; i < words.length(); i++) {
                    section.quoted[at + i] = true;
                }
                return true;
            }
            at = section.text.indexOf(words, at + 1);
        }
        return false;
    }

    /** What no test has quoted of a section, piece by piece; signs and blanks alone are no piece. */
    List<String> unquoted(String place) {
        List<String> pieces = new ArrayList<>();
        Section section = sections.get(place);
        if (section == null) {
            pieces.add("there is no such section");
            return pieces;
        }
        StringBuilder piece = new StringBuilder();
        for (int i = 0; i <= section.quoted.length; i++) {
            if (i < section.quoted.length && !section.quoted[i]) {
                piece.append(section.text.charAt(i));
                continue;
            }
            if (piece.chars().anyMatch(Character::isLetterOrDigit)) {
                pieces.add(piece.toString().trim());
            }
            piece.setLength(0);
        }
        return pieces;
    }

    private static boolean isQuoted(Section section, int from, int n) {
        for (int i = from; i < from + n; i++) {
            if (section.quoted[i]) {
                return true;
            }
        }
        return false;
    }

    private static String nameOf(String heading) {
        int end = heading.indexOf(':');
        return end < 0 ? heading : heading.substring(0, end);
    }

    private static boolean isTold(String line) {
        return !line.startsWith("```") && !line.startsWith("====") && !line.equals("THE CLASS");
    }

    private static String withoutSignature(String line) {
        int end = line.startsWith("`") ? line.indexOf("`: ") : -1;
        return end < 0 ? line : line.substring(end + 3);
    }
}
