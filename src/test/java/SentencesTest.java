import java.io.IOException;
import java.nio.file.Files;
import java.nio.file.Path;
import java.util.Arrays;
import java.util.regex.Matcher;
import java.util.regex.Pattern;

/**
 * The tests of boundary cases quote the sentences that they hold to: each stands in the document, under its promise,
 * and no word of the document that names a boundary is left without one.
 */
public final class SentencesTest {
    private static final int PROMISES = 32;
    /** Refusals, ranges, and what is said of too much, of nothing, of the first and the last. */
    private static final Pattern EDGES = Pattern.compile("\\b(BAD|NOT|FULL|NONE|NULL|CAST|INDEX|SIZE|FAULTS?)\\b|\\.\\.|-1\\b"
        + "|at most|at first|beyond|above|below 0|behind the last|\\bend\\b|too many|too few|fourth|not known|or none|refused"
        + "|of several|least|alone|\\bno [A-Z]+|no two|nobody|empty|nothing|the last|the first|in any|lowest|highest|otherwise"
        + "|the fewest|whole|most\\b|as known|as it was|stays?\\b");
    private static int wrong = 0;

    public static void main(String[] args) throws IOException {
        String[] sections = sections(Files.readString(Path.of("../shared/DOC.md")));
        boolean[][] quoted = new boolean[PROMISES + 1][];
        for (int p = 0; p <= PROMISES; p++) {
            quoted[p] = new boolean[sections[p].length()];
        }
        try (var files = Files.list(Path.of("src/test/java"))) {
            for (Path file : files.filter(f -> f.getFileName().toString().startsWith("BoundsOf")).toList()) {
                markQuotes(file, sections, quoted);
            }
        }
        for (int p = 0; p <= PROMISES; p++) {
            lookAtEdges(p, sections[p], quoted[p]);
        }
        System.out.println(wrong == 0 ? "each sentence has its test" : wrong + " faults");
        if (wrong != 0) {
            System.exit(1);
        }
    }

    private static void say(String what) {
        wrong++;
        System.out.println(what);
    }

    /** The terms, with how long an object is used, and then each promise; blanks alike. */
    private static String[] sections(String document) {
        String[] parts = document.split("\n## ");
        String[] sections = new String[PROMISES + 1];
        Arrays.fill(sections, "");
        for (String part : parts) {
            String text = part.replaceAll("\\s+", " ");
            Matcher m = Pattern.compile("^Promise (\\d+): ").matcher(text);
            if (m.find()) {
                sections[Integer.parseInt(m.group(1))] = text.replaceFirst("^.*?`: ", "");
            } else if (text.startsWith("Terms")) {
                sections[0] += text;
            } else if (text.startsWith("What it is")) {
                sections[0] += text.replaceFirst("^.*?(?=An object )", "");
            }
        }
        return sections;
    }

    private static void markQuotes(Path file, String[] sections, boolean[][] quoted) throws IOException {
        Matcher m = Pattern.compile("sentence\\((\\d+), \"([^\"]*)\"\\);").matcher(Files.readString(file));
        while (m.find()) {
            int promise = Integer.parseInt(m.group(1));
            int at = sections[promise].indexOf(m.group(2));
            if (at < 0) {
                say(file.getFileName() + " quotes what does not stand under " + promise + ": " + m.group(2));
                continue;
            }
            Arrays.fill(quoted[promise], at, at + m.group(2).length(), true);
        }
    }

    private static void lookAtEdges(int promise, String section, boolean[] quoted) {
        Matcher m = EDGES.matcher(section);
        while (m.find()) {
            if (!quoted[m.start()]) {
                int from = Math.max(0, m.start() - 40);
                say("no test quotes " + (promise == 0 ? "the terms" : "promise " + promise) + ": .. "
                    + section.substring(from, Math.min(section.length(), m.end() + 40)) + " ..");
            }
        }
        boolean any = false;
        for (boolean q : quoted) {
            any |= q;
        }
        if (!any) {
            say("no test quotes promise " + promise);
        }
    }
}
