import java.io.IOException;
import java.nio.file.Files;
import java.nio.file.Path;
import java.util.Map;
import java.util.TreeMap;
import java.util.regex.Matcher;
import java.util.regex.Pattern;

/** The words of the document, which of them a test stands for, and how many answers were not as due. */
final class Due {
    /** Of what is told for all promises; the promises have their own numbers. */
    static final int TERMS = 0;
    private static final Path DOCUMENT = Path.of("../shared/DOC.md");
    private static final int PROMISES = 36;

    private static final Map<Integer, String> WORDS = new TreeMap<>();
    private static final Map<Integer, boolean[]> QUOTED = new TreeMap<>();
    private static String saying = "";
    private static int answers = 0;
    private static int answersBefore = 0;
    private static int wrong = 0;

    private Due() { }

    /** Takes the document apart, without its headings, the signs around texts and the calls' own lines. */
    static void readDocument() throws IOException {
        String all = Files.readString(DOCUMENT);
        String terms = between(all, "## Terms\n", "\nAhead of the calls");
        hold(TERMS, terms.replaceAll("```(text)?", " ").replaceAll("======== \\d", " "));
        Matcher m = Pattern.compile("## Promise (\\d+): \\w.*\n\n`[^`]*`: ([^\n]*)").matcher(all);
        while (m.find()) hold(Integer.parseInt(m.group(1)), m.group(2));
        if (WORDS.size() != PROMISES + 1) blame("the document has " + (WORDS.size() - 1) + " promises");
    }

    /** From here on answers stand for these words of a section. */
    static void says(int section, String words) {
        endSaying();
        saying = (section == TERMS ? "Terms" : "promise " + section) + ", '" + words + "'";
        String all = WORDS.get(section);
        int at = all.indexOf(words);
        if (at < 0) blame("the document does not say: " + saying);
        for (int i = at; at >= 0 && i < at + words.length(); i++) QUOTED.get(section)[i] = true;
    }

    /** Words that tell no edge: what they name is asked where it is used. */
    static void tellsNoEdge(int section, String words) {
        says(section, words);
        answersBefore--;
    }

    static void due(String call, int got, int want) {
        answers++;
        if (got != want) blame(saying + ": " + call + " was answered with " + got);
    }

    static void blame(String what) {
        wrong++;
        System.out.println(what);
    }

    /** Whether all answers were as due, and no words of the document are left without a test. */
    static boolean isAllWell() {
        endSaying();
        for (int section : WORDS.keySet()) {
            StringBuilder left = new StringBuilder();
            for (int i = 0; i < WORDS.get(section).length(); i++) {
                boolean quoted = QUOTED.get(section)[i];
                left.append(quoted ? '\n' : WORDS.get(section).charAt(i));
            }
            for (String piece : left.toString().split("\n+")) {
                if (piece.matches(".*\\w.*")) blame("no test stands for these words, section " + section + ": " + piece);
            }
        }
        System.out.println(answers + " answers, " + wrong + " wrong");
        return wrong == 0;
    }

    private static void endSaying() {
        if (!saying.isEmpty() && answers == answersBefore) blame("nothing was asked for " + saying);
        answersBefore = answers;
    }

    private static void hold(int section, String words) {
        String even = words.replaceAll("\\s+", " ").trim();
        WORDS.put(section, even);
        QUOTED.put(section, new boolean[even.length()]);
    }

    private static String between(String all, String start, String end) {
        int from = all.indexOf(start), to = all.indexOf(end);
        return from < 0 || to < from ? "" : all.substring(from + start.length(), to);
    }
}
