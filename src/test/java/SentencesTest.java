import java.io.IOException;
import java.nio.file.Files;
import java.nio.file.Path;
import java.util.ArrayList;
import java.util.Arrays;
import java.util.LinkedHashMap;
import java.util.List;
import java.util.Map;
import java.util.regex.Matcher;
import java.util.regex.Pattern;

/**
 * Each sentence of the document has a test: what the tests name by Check.says() stands in the
 * document, and no word of items 1 to 3 and promises 1 to 25 is left that none of them names.
 */
public final class SentencesTest {
    private static final String[] TESTS = {"RingTest", "TapeTest", "PolyTest", "WeakTest", "IdealTest"};
    private static final Pattern SAYS = Pattern.compile("Check\\.says\\(((?:\\s*\"(?:[^\"\\\\]|\\\\.)*\"\\s*[,+]?)+)\\)");
    private static final Pattern TEXT = Pattern.compile("\"((?:[^\"\\\\]|\\\\.)*)\"");

    public static void main(String[] args) throws IOException {
        Path page = Path.of("../shared/DOC.md");
        if (!Files.exists(page)) {
            System.out.println("there is no " + page);
            return;
        }
        Map<String, String> sections = sections(Files.readString(page));
        Map<String, boolean[]> named = new LinkedHashMap<>();
        sections.forEach((title, text) -> named.put(title, new boolean[text.length()]));
        for (String test : TESTS) {
            for (String[] said : saidIn(Files.readString(Path.of("src/test/java/" + test + ".java")))) {
                String text = sections.getOrDefault(said[0], "");
                int at = text.indexOf(said[1]);
                Check.due(test + ": in " + said[0] + " stands \"" + said[1] + "\"", at >= 0, true);
                for (; at >= 0; at = text.indexOf(said[1], at + 1)) {
                    Arrays.fill(named.get(said[0]), at, at + said[1].length(), true);
                }
            }
        }
        for (String title : sections.keySet()) {
            if (title.startsWith("Item") || title.startsWith("Promise")) {
                Check.due("words of " + title + " without a test", left(sections.get(title), named.get(title)), "");
            }
        }
        Check.finish();
    }

    /** By titles; of an item what stands behind its number, of a promise what stands behind its method. */
    private static Map<String, String> sections(String page) {
        Map<String, String> sections = new LinkedHashMap<>();
        String title = "";
        for (String line : page.split("\n")) {
            if (line.startsWith("## ")) {
                title = line.substring(3).replaceFirst("(Promise \\d+):.*", "$1");
            } else if (line.startsWith("==== ")) {
                title = "Item " + line.charAt(5);
            }
            String text = line.startsWith("#") || line.startsWith("```") ? "" : line.replaceFirst("^==== \\d\\.", "");
            text = title.startsWith("Promise") ? text.replaceFirst("^`[^`]*`:", "") : text;
            sections.merge(title, text.strip(), (a, b) -> (a + " " + b).strip());
        }
        return sections;
    }

    /** Section and words of each Check.says(). */
    private static List<String[]> saidIn(String source) {
        List<String[]> all = new ArrayList<>();
        Matcher call = SAYS.matcher(source);
        while (call.find()) {
            List<String> texts = new ArrayList<>();
            Matcher text = TEXT.matcher(call.group(1));
            while (text.find()) {
                texts.add(text.group(1).replace("\\\"", "\""));
            }
            all.add(new String[] {texts.get(0), String.join("", texts.subList(1, texts.size()))});
        }
        Check.due("each says() is found", all.size(), source.split("Check\\.says\\(", -1).length - 1);
        return all;
    }

    private static String left(String text, boolean[] named) {
        StringBuilder left = new StringBuilder();
        for (int i = 0; i < text.length(); i++) {
            left.append(named[i] ? ' ' : text.charAt(i));
        }
        return left.toString().replaceAll("[^A-Za-z0-9]+", " ").strip();
    }
}
