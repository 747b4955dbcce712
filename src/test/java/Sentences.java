import java.io.IOException;
import java.nio.file.Files;
import java.nio.file.Path;
import java.util.ArrayList;
import java.util.LinkedHashMap;
import java.util.LinkedHashSet;
import java.util.List;
import java.util.Map;
import java.util.Set;

/**
 * Checks that each belong to a sentence of the document. The end compares the sentences that were checked with the
 * document itself, so that none is left without a test.
 */
final class Sentences {
    private static final Path DOCUMENT = Path.of("../shared/DOC.md");

    private final Checks checks = new Checks();
    private final Map<String, Set<String>> tested = new LinkedHashMap<>();
    private String section = "";
    private String quoted = null;
    private int checksOfQuoted = 1;
    private int faults = 0;

    /** The following sentences stand in a part of the description ("Tree") or in a promise ("12"). */
    void in(String newSection) {
        section = newSection;
    }

    /** The following checks are of the sentence that begins with these words. */
    void says(String words) {
        endSentence();
        quoted = words;
        checksOfQuoted = 0;
        tested.computeIfAbsent(section, s -> new LinkedHashSet<>()).add(words);
    }

    void due(String what, Object want, Checks.Call call) {
        checksOfQuoted++;
        checks.due(section + ", '" + quoted + "': " + what, want, call);
    }

    void same(String what, Object want, Object got) {
        due(what, want, () -> got);
    }

    void illegalArgument(String what, Checks.Call call) {
        due(what, "throws.IllegalArgumentException", call);
    }

    void illegalState(String what, Checks.Call call) {
        due(what, "throws.IllegalStateException", call);
    }

    void noSuchElement(String what, Checks.Call call) {
        due(what, "throws.NoSuchElementException", call);
    }

    void outOfBounds(String what, Checks.Call call) {
        due(what, "throws.IndexOutOfBoundsException", call);
    }

    private void endSentence() {
        if (checksOfQuoted == 0) {
            fault("no check of " + section + ": " + quoted);
        }
    }

    private void fault(String what) {
        faults++;
        System.out.println(what);
    }

    void end() throws IOException {
        endSentence();
        if (Files.isReadable(DOCUMENT)) {
            compare(read(Files.readAllLines(DOCUMENT)));
        }
        checks.due("sentences without a test, or tests without a sentence", 0, () -> faults);
        checks.end();
    }

    private void compare(Map<String, List<String>> document) {
        int count = 0;
        for (Map.Entry<String, List<String>> part : document.entrySet()) {
            Set<String> quotes = tested.getOrDefault(part.getKey(), Set.of());
            for (String sentence : part.getValue()) {
                count++;
                if (quotes.stream().noneMatch(sentence::startsWith)) {
                    fault("no test of " + part.getKey() + ": " + sentence);
                }
            }
        }
        for (Map.Entry<String, Set<String>> part : tested.entrySet()) {
            List<String> sentences = document.getOrDefault(part.getKey(), List.of());
            for (String quote : part.getValue()) {
                if (sentences.stream().noneMatch(s -> s.startsWith(quote))) {
                    fault("no such sentence in " + part.getKey() + ": " + quote);
                }
            }
        }
        System.out.println(count + " sentences of the document");
    }

    /** The sentences of the description, without its examples, and of the promises, without their signatures. */
    private static Map<String, List<String>> read(List<String> lines) {
        Map<String, List<String>> found = new LinkedHashMap<>();
        boolean described = false;
        String part = null;
        StringBuilder paragraph = new StringBuilder();
        for (String line : lines) {
            boolean grammar = line.startsWith("  ") && !line.startsWith("    ");
            boolean ownSentence = line.startsWith("- ") || line.startsWith("Throws ") || grammar
                    || line.startsWith("| means");
            if (line.isBlank() || line.startsWith("#") || ownSentence) {
                split(found, part, paragraph);
            }
            if (line.startsWith("#")) {
                described = line.equals("## Description");
                part = line.startsWith("## Promise ") ? line.substring(11, line.indexOf(':')) : null;
            } else if (described && line.matches("[A-Z][a-z]+( [a-z]+)?\\. .*")) {
                part = line.substring(0, line.indexOf('.'));
                paragraph.append(line.substring(line.indexOf('.') + 2));
                part = part.equals("Examples") ? null : part;
            } else if (!line.startsWith("`")) {
                paragraph.append(paragraph.length() == 0 ? "" : " ").append(line.strip());
            }
        }
        return found;
    }

    private static void split(Map<String, List<String>> found, String part, StringBuilder paragraph) {
        String text = paragraph.toString();
        paragraph.setLength(0);
        if (part == null || text.isBlank() || text.startsWith("The constructor and")) {
            return;
        }
        for (String sentence : text.split("(?<=[.:;]) (?=[A-Z|])")) {
            found.computeIfAbsent(part, p -> new ArrayList<>()).add(sentence);
        }
    }
}
