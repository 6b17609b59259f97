import java.io.IOException;
import java.nio.file.Files;
import java.nio.file.Path;
import java.util.BitSet;
import java.util.HashMap;
import java.util.Map;
import java.util.regex.Matcher;
import java.util.regex.Pattern;

/**
 * Ties answers to the sentences of DOC.md: each test names its sentence by the document's own words, and a word by
 * which the document names a boundary must stand in a sentence that was named.
 */
final class Doc {
    private static final Path PLACE = Path.of("../shared/DOC.md");
    private static final Pattern BOUNDARY = Pattern.compile("\\d+ to \\d+|\\b(BAD|NO|FULL|NONE|at most|at least|or more"
        + "|at first|below|above|beyond|rounded|cut|once|one each|anew|none|None|least|lower|empty|less than|more than"
        + "|none less|OPENS|first one on|ever|no such|how many|nothing|hour 0|numbered from 0|MACHINES)\\b|-\\d+");

    private static final Map<String, String> SECTIONS = new HashMap<>();
    private static final Map<String, BitSet> NAMED = new HashMap<>();

    private Doc() {
    }

    /** The answers that follow belong to this sentence of a part (1 to 6; 7: the last lines) of the Terms. */
    static void terms(int part, String words) {
        name("Terms " + part, words);
    }

    /** The answers that follow belong to this sentence of a promise. */
    static void promise(int number, String words) {
        name("Promise " + number, words);
    }

    static void termsAreWhole(int part) {
        isWhole("Terms " + part);
    }

    static void promisesAreWhole(int first, int last) {
        for (int number = first; number <= last; number++) {
            isWhole("Promise " + number);
        }
    }

    private static void name(String section, String words) {
        Check.begin(section + ", \"" + words + "\"");
        if (sections().isEmpty()) {
            return;
        }
        int at = SECTIONS.getOrDefault(section, "").indexOf(words);
        if (at < 0) {
            Check.due("these words are not in " + PLACE, 1, 0);
            return;
        }
        NAMED.computeIfAbsent(section, s -> new BitSet()).set(at, at + words.length());
    }

    private static void isWhole(String section) {
        if (sections().isEmpty()) {
            return;
        }
        Check.begin(section);
        Check.due("is in " + PLACE, SECTIONS.containsKey(section) ? 1 : 0, 1);
        String text = SECTIONS.getOrDefault(section, "");
        BitSet named = NAMED.getOrDefault(section, new BitSet());
        Matcher m = BOUNDARY.matcher(text);
        while (m.find()) {
            String around = text.substring(Math.max(0, m.start() - 40), Math.min(text.length(), m.end() + 20));
            Check.due("a sentence with a test of its own has: .. " + around, named.get(m.start()) ? 1 : 0, 1);
        }
    }

    /** Empty, if the document can't be read: then sentences are tested all the same, but not looked up. */
    private static Map<String, String> sections() {
        if (SECTIONS.isEmpty()) {
            try {
                split(Files.readString(PLACE));
            } catch (IOException e) {
                System.out.println("sentences are not looked up: " + e);
            }
        }
        return SECTIONS;
    }

    private static void split(String document) {
        for (String section : document.split("(?m)^## ")) {
            if (section.startsWith("Terms")) {
                splitTerms(section);
            } else if (section.startsWith("Promise ")) {
                put(section.substring(0, section.indexOf(':')), section);
            }
        }
    }

    private static void splitTerms(String terms) {
        int last = terms.indexOf("BAD: ");
        put("Terms 7", terms.substring(last));
        String[] parts = terms.substring(0, last).split("======== ");
        for (int part = 1; part < parts.length; part++) {
            put("Terms " + part, parts[part]);
        }
    }

    private static void put(String name, String text) {
        SECTIONS.put(name, text.replaceAll("```(text)?", "").replaceAll("\\s+", " "));
    }
}
