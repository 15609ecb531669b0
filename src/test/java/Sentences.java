import java.util.ArrayList;
import java.util.BitSet;
import java.util.LinkedHashMap;
import java.util.List;
import java.util.Map;

/** The document's sentences, by the section that says them, and which of them a test has quoted. */
final class Sentences {
    /** These sections promise nothing beyond the face, which FaceTests hold. */
    private static final List<String> WITHOUT_TESTS = List.of("The public face", "Not promised");

    private final Map<String, String> sections = new LinkedHashMap<>();
    private final Map<String, BitSet> quoted = new LinkedHashMap<>();

    Sentences(String document) {
        Map<String, StringBuilder> texts = new LinkedHashMap<>();
        String chapter = "";
        String section = "";
        for (String line : document.lines().toList()) {
            if (line.startsWith("## ")) {
                chapter = line.substring(3).replaceFirst(":.*", "");
                section = chapter;
            } else if (chapter.equals("Terms") && line.matches("\\d\\. [A-Z].*")) {
                section = "Term " + line.charAt(0);
            } else if (!line.startsWith("```") && !line.startsWith("# ") && !WITHOUT_TESTS.contains(chapter)) {
                texts.computeIfAbsent(section, s -> new StringBuilder()).append(line).append('\n');
            }
        }
        for (Map.Entry<String, StringBuilder> text : texts.entrySet()) {
            String words = plain(text.getValue().toString().strip().replaceFirst("^`[^`]*\\([^`]*`: ", ""));
            if (!words.isEmpty()) {
                sections.put(text.getKey(), words);
                quoted.put(text.getKey(), new BitSet(words.length()));
            }
        }
    }

    /** In one line, with ' for " and without the marks of code, so that it can be quoted. */
    private static String plain(String text) {
        return text.replace("`", "").replace('"', '\'').replaceAll("\\s+", " ").trim();
    }

    int count() {
        return sections.size();
    }

    /** Whether these words stand in the section, at a place that was not quoted yet. */
    boolean quote(String section, String words) {
        String text = sections.getOrDefault(section, "");
        BitSet done = quoted.getOrDefault(section, new BitSet());
        int at = text.indexOf(words);
        while (at >= 0 && !done.get(at, at + words.length()).isEmpty()) {
            at = text.indexOf(words, at + 1);
        }
        if (at >= 0) {
            done.set(at, at + words.length());
        }
        return at >= 0;
    }

    /** What was not quoted, each with its section. */
    List<String> unquoted() {
        List<String> left = new ArrayList<>();
        for (Map.Entry<String, String> section : sections.entrySet()) {
            String text = section.getValue();
            BitSet done = quoted.get(section.getKey());
            int from = done.nextClearBit(0);
            while (from < text.length()) {
                int to = done.nextSetBit(from);
                String words = text.substring(from, to < 0 ? text.length() : to).trim();
                if (words.chars().anyMatch(Character::isLetterOrDigit)) {
                    left.add(section.getKey() + ": " + words);
                }
                from = to < 0 ? text.length() : done.nextClearBit(to);
            }
        }
        return left;
    }
}
