import java.nio.file.Files;
import java.nio.file.Path;
import java.util.ArrayList;
import java.util.LinkedHashMap;
import java.util.List;
import java.util.Map;
import java.util.regex.Matcher;
import java.util.regex.Pattern;
import java.util.stream.Stream;

/**
 * Each sentence of the document's terms and promises has a test that names it by Check.says, and no test names
 * one that the document doesn't have.
 */
public final class SentencesTest {
    private static final Path DOCUMENT = Path.of("../shared/DOC.md");
    private static final Pattern SAYS = Pattern.compile("Check\\.says\\(((?:\"(?:[^\"\\\\]|\\\\.)*\"|[\\s,+])+)\\)");
    private static final Pattern TEXT = Pattern.compile("\"((?:[^\"\\\\]|\\\\.)*)\"");
    private static final Pattern SECTION = Pattern.compile("## (What it is|Terms|Promise [0-9]+)(?::.*)?");

    public static void main(String[] args) throws Exception {
        if (!Files.exists(DOCUMENT)) {
            System.out.println("there is no " + DOCUMENT + " to look at");
            return;
        }
        Map<String, String> sections = sections(Files.readAllLines(DOCUMENT));
        Map<String, boolean[]> named = new LinkedHashMap<>();
        sections.forEach((section, text) -> named.put(section, new boolean[text.length()]));
        for (String[] said : allThatIsSaid()) mark(said, sections, named);
        for (int promise = 1; promise <= 27; promise++) {
            Check.due("promise " + promise + " is in the document", sections.containsKey("Promise " + promise) ? 1 : 0, 1);
        }
        sections.remove("What it is");
        sections.forEach((section, text) -> dueAllNamed(section, text, named.get(section)));
        Check.finish();
    }

    /** The text of each section, in one line, without headings, signatures and the code of the face. */
    private static Map<String, String> sections(List<String> lines) {
        Map<String, StringBuilder> texts = new LinkedHashMap<>();
        StringBuilder text = new StringBuilder();
        for (String line : lines) {
            Matcher heading = SECTION.matcher(line);
            if (heading.matches()) {
                text = new StringBuilder();
                texts.put(heading.group(1), text);
            } else if (line.startsWith("## ")) {
                text = new StringBuilder();
            } else if (!isHeading(line)) {
                text.append(line.replaceFirst("^`(int )?\\w+\\([^`]*\\)`: ", "")).append(' ');
            }
        }
        Map<String, String> sections = new LinkedHashMap<>();
        texts.forEach((section, words) -> sections.put(section, inOneLine(words.toString())));
        return sections;
    }

    private static boolean isHeading(String line) {
        return line.startsWith("#") || line.equals("Lanes, tins, flavours");
    }

    private static String inOneLine(String text) {
        return text.replaceAll("```(java.*?```|text)?", " ").replaceAll("\\s+", " ").trim();
    }

    /** Section and sentence of each call of Check.says in the tests. */
    private static List<String[]> allThatIsSaid() throws Exception {
        List<String[]> all = new ArrayList<>();
        List<Path> tests;
        try (Stream<Path> files = Files.list(Path.of("src/test/java"))) {
            tests = files.filter(file -> file.toString().endsWith(".java")).sorted().toList();
        }
        for (Path test : tests) {
            Matcher says = SAYS.matcher(Files.readString(test));
            while (says.find()) all.add(texts(says.group(1)));
        }
        return all;
    }

    /** The first text is the section, the others are the sentence. */
    private static String[] texts(String arguments) {
        Matcher text = TEXT.matcher(arguments);
        String section = "";
        StringBuilder sentence = new StringBuilder();
        while (text.find()) {
            String plain = text.group(1).replace("\\\"", "\"").replace("\\\\", "\\");
            if (section.isEmpty()) section = plain;
            else sentence.append(plain);
        }
        return new String[] {section, sentence.toString()};
    }

    private static void mark(String[] said, Map<String, String> sections, Map<String, boolean[]> named) {
        String text = sections.getOrDefault(said[0], "");
        int found = text.indexOf(said[1]);
        Check.due(said[0] + " has \"" + said[1] + "\"", found >= 0 && !said[1].isEmpty() ? 1 : 0, 1);
        for (int at = found; at >= 0; at = text.indexOf(said[1], at + 1)) {
            for (int i = 0; i < said[1].length(); i++) named.get(said[0])[at + i] = true;
        }
    }

    private static void dueAllNamed(String section, String text, boolean[] named) {
        StringBuilder left = new StringBuilder();
        for (int i = 0; i < named.length; i++) {
            if (!named[i] && Character.isLetterOrDigit(text.charAt(i))) left.append(text.charAt(i));
        }
        Check.due(section + ": letters that no test names, " + left, left.length(), 0);
    }
}
