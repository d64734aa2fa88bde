import java.lang.reflect.Method;
import java.lang.reflect.Modifier;
import java.nio.file.Files;
import java.nio.file.Path;
import java.util.regex.Matcher;
import java.util.regex.Pattern;

/** The example of README.md: each call answers what stands first in the comment behind it. */
public final class ReadmeTest {
    private static final Pattern CALL = Pattern.compile("near\\.(\\w+)\\(([^)]*)\\);\\s*// (true|false|-?\\d+|'.')\\b?.*");

    public static void main(String[] args) throws Exception {
        String page = Files.readString(Path.of("README.md"));
        String example = page.substring(page.indexOf("```java\n") + 8);
        example = example.substring(0, example.indexOf("```"));
        String[] lines = example.split("\n");
        Check.due("the first line", lines[0], "StairsNear near = new StairsNear();");
        StairsNear near = new StairsNear();
        for (int i = 1; i < lines.length; i++) {
            Matcher call = CALL.matcher(lines[i]);
            if (call.matches()) {
                Check.due(lines[i], answer(near, call.group(1), call.group(2)), call.group(3));
            } else {
                Check.due("a call and its answer", lines[i], "near.name(numbers); // answer ..");
            }
        }
        namesEachCall(page);
        Check.finish();
    }

    private static String answer(StairsNear near, String name, String arguments) throws Exception {
        String[] texts = arguments.split(",\\s*");
        Class<?>[] types = new Class<?>[texts.length];
        Object[] numbers = new Object[texts.length];
        for (int i = 0; i < texts.length; i++) {
            types[i] = int.class;
            numbers[i] = Integer.decode(texts[i]);
        }
        Object answer = StairsNear.class.getMethod(name, types).invoke(near, numbers);
        return name.equals("out") ? "'" + (char) (int) answer + "'" : answer.toString();
    }

    private static void namesEachCall(String page) {
        for (Method method : StairsNear.class.getDeclaredMethods()) {
            if (Modifier.isPublic(method.getModifiers())) {
                Check.due("README.md names " + method.getName(), page.contains("`" + method.getName() + "`"), true);
            }
        }
    }
}
