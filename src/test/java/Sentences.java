import java.io.IOException;
import java.nio.file.Files;
import java.nio.file.Path;
import java.util.ArrayList;
import java.util.LinkedHashMap;
import java.util.List;
import java.util.Map;
import java.util.regex.Matcher;
import java.util.regex.Pattern;

/**
 * Tests that stand under sentences of the document: each is quoted, must stand in its section, and must have
 * been asked for; and no place of a section that names an edge may be left without a sentence.
 */
final class Sentences {
    /** Words by which the document names an edge. */
    private static final Pattern EDGE = Pattern.compile(
            "-[2-6]\\b|\\bNONE\\b|\\d \\.\\. |\\b(too|may be|need not|without|from 0|below|beyond|more than|so many"
            + "|ahead of|empty|less 1|alone|nothing|no SETS|no such|stays|latest|like ones|none|as told|whatever"
            + "|last|unlike|nobody|behind)\\b");

    private static final Map<String, String> SECTIONS = sections();
    private static final Map<String, List<String>> QUOTED = new LinkedHashMap<>();
    private static String section = "";
    private static String words = "";
    private static int wrong = 0;
    private static int asked = 0;
    private static int askedOfThese = 1;
    private static int sentences = 0;

    private Sentences() {
    }

    private static Map<String, String> sections() {
        String named = System.getenv("MEETING_SETS_DOC");
        Map<String, String> map = new LinkedHashMap<>();
        try {
            String doc = Files.readString(Path.of(named == null ? "../shared/DOC.md" : named));
            for (String part : doc.split("(?m)^## ")) {
                String title = part.split("[:\n]")[0];
                String text = part.substring(part.indexOf('\n') + 1).replaceAll("(?m)^```.*$", " ");
                text = text.replaceAll("^\\s*`[^`]*`:", " ").replaceAll("\\s+", " ");
                map.put(title, text);
            }
        } catch (IOException e) {
            throw new IllegalStateException(e);
        }
        return map;
    }

    private static void fails(String what) {
        wrong++;
        System.out.println(section + ", '" + words + "': " + what);
    }

    /** The tests that follow stand under sentences of this section. */
    static void section(String title) {
        close();
        section = title;
        words = "";
        askedOfThese = 1;
    }

    /** The tests that follow stand under this sentence. */
    static void says(String sentence) {
        close();
        words = sentence;
        askedOfThese = 0;
        sentences++;
        QUOTED.computeIfAbsent(section, s -> new ArrayList<>()).add(sentence);
        if (!SECTIONS.getOrDefault(section, "").contains(sentence)) {
            fails("does not stand there");
        }
    }

    private static void close() {
        if (askedOfThese == 0) {
            fails("has no test");
        }
    }

    static void due(String what, String got, String want) {
        asked++;
        askedOfThese++;
        if (!got.equals(want)) {
            fails(what + " is " + got + ", due is " + want);
        }
    }

    private static void allEdgesOf(String title) {
        section = title;
        words = "";
        String text = SECTIONS.getOrDefault(title, "");
        boolean[] covered = new boolean[text.length()];
        for (String sentence : QUOTED.getOrDefault(title, List.of())) {
            for (int at = text.indexOf(sentence); at >= 0; at = text.indexOf(sentence, at + 1)) {
                java.util.Arrays.fill(covered, at, at + sentence.length(), true);
            }
        }
        Matcher m = EDGE.matcher(text);
        while (m.find()) {
            if (!covered[m.start()] || !covered[m.end() - 1]) {
                fails("no sentence with '" + m.group() + "' in: .. "
                        + text.substring(Math.max(0, m.start() - 40), Math.min(text.length(), m.end() + 40)));
            }
        }
    }

    /** Whether all was as due, and these sections have a test wherever they name an edge. */
    static void finish(List<String> titles) {
        close();
        askedOfThese = 1;
        titles.forEach(Sentences::allEdgesOf);
        System.out.println(sentences + " sentences, " + asked + " answers, " + wrong + " not as due");
        if (wrong != 0) {
            System.exit(1);
        }
    }
}
