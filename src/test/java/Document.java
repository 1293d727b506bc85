import java.io.IOException;
import java.nio.file.Files;
import java.nio.file.Path;
import java.util.ArrayList;
import java.util.BitSet;
import java.util.LinkedHashMap;
import java.util.List;
import java.util.Map;
import java.util.regex.Matcher;
import java.util.regex.Pattern;

/** The document by its parts, and which of its words are held by tests. */
final class Document {
    private static final Pattern PROMISE = Pattern.compile("## (Promise \\d+): \\w.*");
    private static final Pattern SECTION = Pattern.compile("======== (\\d) (.*)");
    private static final Pattern WORD = Pattern.compile("[A-Za-z0-9]+");

    private final Map<String, String> parts = new LinkedHashMap<>();
    private final Map<String, BitSet> held = new LinkedHashMap<>();

    Document(Path file) throws IOException {
        String part = "";
        for (String line : Files.readAllLines(file)) {
            Matcher promise = PROMISE.matcher(line);
            Matcher section = SECTION.matcher(line);
            if (promise.matches()) {
                part = promise.group(1);
            } else if (line.startsWith("## ")) {
                part = line.substring(3);
            } else if (section.matches()) {
                part = "Section " + section.group(1);
                add(part, section.group(2));
            } else if (line.startsWith("Ahead of the calls")) {
                part = "The interface";
            } else if (!line.startsWith("```")) {
                // Of a promise the call's own line of the face is no sentence.
                add(part, part.startsWith("Promise") ? line.replaceFirst("^`[^`]*`: ", "") : line);
            }
        }
    }

    private void add(String part, String line) {
        String whole = parts.getOrDefault(part, "") + " " + line;
        parts.put(part, whole.replaceAll("\\s+", " ").trim());
        held.putIfAbsent(part, new BitSet());
    }

    /** Whether these words stand in that part. */
    boolean hold(String part, String words) {
        int start = parts.getOrDefault(part, "").indexOf(words);
        if (start < 0 || words.isEmpty()) {
            return false;
        }
        held.get(part).set(start, start + words.length());
        return true;
    }

    /** The words of the terms, the sections and the promises that no test holds. */
    List<String> free() {
        List<String> free = new ArrayList<>();
        for (String part : parts.keySet()) {
            if (part.equals("Terms") || part.startsWith("Section") || part.startsWith("Promise")) {
                Matcher word = WORD.matcher(parts.get(part));
                while (word.find()) {
                    if (!held.get(part).get(word.start())) {
                        free.add(part + ": " + word.group());
                    }
                }
            }
        }
        return free;
    }

    int promises() {
        return (int) parts.keySet().stream().filter(part -> part.startsWith("Promise")).count();
    }
}
