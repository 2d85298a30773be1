import java.io.IOException;
import java.nio.file.Files;
import java.nio.file.Path;
import java.util.ArrayList;
import java.util.HashSet;
import java.util.LinkedHashMap;
import java.util.List;
import java.util.Map;
import java.util.Set;
import java.util.regex.Matcher;
import java.util.regex.Pattern;

/**
 * The sentences of the document. A test quotes the one that it is for, so that none is left without a test, and a test
 * whose sentence is no longer there is told.
 */
final class Document {
    private final Map<String, List<String>> sections = new LinkedHashMap<>();
    private final Set<String> quoted = new HashSet<>();
    private final Check check;

    Document(Check check) throws IOException {
        this.check = check;
        String text = Files.readString(Path.of("../shared/DOC.md"));
        Matcher head = Pattern.compile("(?m)^## (.*)$").matcher(text);
        int from = -1;
        String name = "";
        while (head.find()) {
            if (from >= 0) {
                read(name, text.substring(from, head.start()));
            }
            name = head.group(1);
            from = head.end();
        }
        read(name, text.substring(Math.max(0, from)));
    }

    /** What a promise tells stands in lines; the terms are paragraphs, each a section, of sentences in a row. */
    private void read(String head, String body) {
        List<String> lines = new ArrayList<>();
        for (String paragraph : body.strip().split("\n\\s*\n|\n(?=- )")) {
            String text = paragraph.strip().replaceAll("\\s+", " ");
            if (head.equals("Terms")) {
                List<String> sentences = List.of(text.split("(?<=\\.) (?=[A-Z])"));
                sections.put("Terms, " + text.replaceFirst("^(\\w+( \\w+)?).*", "$1"), sentences);
            } else {
                lines.add(text);
            }
        }
        if (!lines.isEmpty()) {
            sections.put(head.replaceFirst(":.*", ""), lines);
        }
    }

    int count(String sectionName) {
        int count = 0;
        for (String section : sections.keySet()) {
            count += section.startsWith(sectionName) ? 1 : 0;
        }
        return count;
    }

    /** Tells that a test follows for the one sentence of the section that has these words in it. */
    void quote(String section, String words) {
        List<String> found = new ArrayList<>();
        for (String sentence : sections.getOrDefault(section, List.of())) {
            if (sentence.contains(words)) {
                found.add(sentence);
            }
        }
        check.same("sentences of " + section + " with: " + words, found.size(), 1);
        for (String sentence : found) {
            quoted.add(section + ": " + sentence);
        }
    }

    /** All sentences of the sections with that name are quoted, but for those that look like one of the others. */
    void allQuoted(String sectionName, String... others) {
        for (Map.Entry<String, List<String>> section : sections.entrySet()) {
            if (!section.getKey().startsWith(sectionName)) {
                continue;
            }
            for (String sentence : section.getValue()) {
                String what = section.getKey() + ": " + sentence;
                boolean aside = List.of(others).stream().anyMatch(sentence::matches);
                check.holds("a test for " + what, aside || quoted.contains(what));
            }
        }
    }
}
