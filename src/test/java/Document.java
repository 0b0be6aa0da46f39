import java.nio.file.Files;
import java.nio.file.Path;
import java.util.ArrayList;
import java.util.List;
import java.util.Map;
import java.util.TreeMap;

/**
 * The sentences of ../shared/DOC.md, with calls that answer as they do because of them. A sentence is quoted as it stands
 * there, and one that is quoted nowhere is told: so none is forgotten when the document changes.
 */
final class Document {
    static final int TERMS = 0;
    static final int PROMISES = 45;

    private static final Map<Integer, String> sections = read();
    private static final Map<Integer, List<String>> quotes = new TreeMap<>();
    private static int wrong = 0;

    private Document() {
    }

    private static Map<Integer, String> read() {
        Map<Integer, String> sections = new TreeMap<>();
        try {
            for (String part : Files.readString(Path.of("../shared/DOC.md")).split("\n## ")) {
                String name = part.split("\n")[0];
                if (name.startsWith("Terms")) {
                    sections.put(TERMS, folded(part));
                } else if (name.startsWith("Promise ")) {
                    sections.put(Integer.parseInt(name.replaceAll("Promise ([0-9]+):.*", "$1")), part);
                }
            }
        } catch (java.io.IOException e) {
            throw new Error(e);
        }
        return sections;
    }

    private static String folded(String text) {
        return text.replaceAll("\\s+", " ");
    }

    static void tell(String what) {
        wrong++;
        System.out.println(what);
    }

    /** What the document says there, and calls that answer as they do because of that. */
    static void says(int promise, String quote, String... calls) {
        if (!folded(sections.getOrDefault(promise, "")).contains(quote)) {
            tell("promise " + promise + " does not say: " + quote);
        }
        quotes.computeIfAbsent(promise, key -> new ArrayList<>()).add(quote);
        answers("promise " + promise + ", " + quote, 0, calls);
    }

    /** What hand H answers then. */
    static void answers(String where, int hand, String... calls) {
        for (String line : Script.of(String.join("\n", calls).replaceAll("\\bH\\b", "" + hand)).wrong) {
            tell(where + ": " + line);
        }
    }

    /** Ends the program; what these promises say must have been quoted. */
    static void end(int first, int last) {
        for (int promise = first; promise <= last; promise++) {
            for (String sentence : sentences(promise)) {
                if (!isQuoted(promise, sentence)) {
                    tell("promise " + promise + ": nothing tests: " + sentence);
                }
            }
        }
        if (wrong != 0) {
            System.out.println(wrong + " wrong");
            System.exit(1);
        }
    }

    /** What must be quoted of a promise: all but what StatesTest tests for each hand that there is not. */
    private static List<String> sentences(int promise) {
        String section = sections.getOrDefault(promise, "no such promise");
        List<String> all = new ArrayList<>();
        if (promise == TERMS) {
            String terms = section.substring("Terms ".length(), section.indexOf(". Ahead of the calls"));
            for (String sentence : terms.split("[.;] ")) {
                addUnless(all, sentence, sentence.startsWith("<p>"));
            }
            return all;
        }
        for (String line : section.split("\n")) {
            if (line.startsWith("Throws")) {
                for (String reason : line.replaceFirst(".*` if ", "").replace("hand, for", "hand for").split(", (or )?")) {
                    addUnless(all, reason.replace("hand for", "hand, for"), reason.equals("there is no such hand"));
                }
            } else if (line.startsWith("`")) {
                all.add(line.replaceFirst(".*?`: ", ""));
            } else if (line.startsWith("- ") || line.startsWith("Returns")) {
                addUnless(all, line, line.equals("- `hand`: the hand"));
            }
        }
        if (all.isEmpty()) {
            tell("promise " + promise + " says nothing");
        }
        return all;
    }

    private static void addUnless(List<String> all, String sentence, boolean isLeftOut) {
        if (!isLeftOut) {
            all.add(sentence);
        }
    }

    private static boolean isQuoted(int promise, String sentence) {
        for (String quote : quotes.getOrDefault(promise, List.of())) {
            if (sentence.contains(quote) || quote.contains(sentence)) {
                return true;
            }
        }
        return false;
    }
}
