import java.io.IOException;
import java.nio.file.Files;
import java.nio.file.Path;
import java.util.Arrays;
import java.util.LinkedHashMap;
import java.util.Map;
import java.util.regex.Matcher;
import java.util.regex.Pattern;

/**
 * The document cut into its sections. A test quotes the sentence that it is about; at the end each
 * word of the sections must have been quoted, and each quotation have been followed by an answer.
 */
class Sentences extends Calls {
    private static final Map<String, String> TEXTS = new LinkedHashMap<>();
    private static final Map<String, boolean[]> QUOTED = new LinkedHashMap<>();
    private static String section = "";
    private static String sentence = "";
    private static int askedBefore;

    static void read(String path) throws IOException {
        String present = "";
        for (String line : Files.readString(Path.of(path)).split("\n")) {
            Matcher numbered = Pattern.compile("(\\d)\\. [A-Z].*").matcher(line);
            if (line.startsWith("#")) {
                Matcher heading = Pattern.compile("## (Promise \\d+|What it is)(:.*)?").matcher(line);
                present = heading.matches() ? heading.group(1) : "";
            } else if (numbered.matches()) {
                present = "Section " + numbered.group(1);
            } else if (!line.startsWith("----") && !line.matches("`.*`")) {
                TEXTS.merge(present, line + "\n", String::concat);
            }
        }
        TEXTS.remove("");
        TEXTS.replaceAll((name, text) -> text.replaceAll("\\s+", " "));
        TEXTS.forEach((name, text) -> QUOTED.put(name, new boolean[text.length()]));
    }

    static void section(String name) {
        section = name;
        if (!TEXTS.containsKey(name)) {
            wrong("the document has no " + name);
        }
    }

    /** The next answers are about this sentence of the section, or this part of one. */
    static void says(String quotation) {
        seeAnswered();
        sentence = quotation;
        about(section + ", " + quotation);
        String text = TEXTS.getOrDefault(section, "");
        boolean[] quoted = QUOTED.getOrDefault(section, new boolean[0]);
        int at = text.indexOf(quotation);
        while (at >= 0 && quoted[at]) {
            at = text.indexOf(quotation, at + 1);
        }
        if (at < 0) {
            wrong("the document does not say this, or not once more");
        } else {
            Arrays.fill(quoted, at, at + quotation.length(), true);
        }
    }

    private static void seeAnswered() {
        if (!sentence.isEmpty() && asked() == askedBefore) {
            wrong("no answer is about this sentence");
        }
        sentence = "";
        askedBefore = asked();
    }

    /** Sees that this section has been quoted whole. */
    static void endOf(String name) {
        seeAnswered();
        section(name);
        about(name);
        seeQuoted(TEXTS.getOrDefault(name, ""), QUOTED.getOrDefault(name, new boolean[0]));
    }

    private static void seeQuoted(String text, boolean[] quoted) {
        StringBuilder rest = new StringBuilder();
        for (int i = 0; i < quoted.length; i++) {
            rest.append(quoted[i] ? ' ' : text.charAt(i));
        }
        String left = rest.toString().replaceAll("\\s+", " ").trim();
        if (left.matches(".*\\w.*")) {
            wrong("no test is about: " + left);
        }
    }
}
