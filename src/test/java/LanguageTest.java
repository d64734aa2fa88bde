import java.io.IOException;
import java.lang.reflect.Constructor;
import java.lang.reflect.Field;
import java.lang.reflect.Method;
import java.lang.reflect.Modifier;
import java.nio.file.Files;
import java.nio.file.Path;
import java.util.Arrays;
import java.util.Set;
import java.util.TreeSet;
import java.util.regex.Matcher;
import java.util.regex.Pattern;

/** Rules of LANGUAGE.md that a machine can look after, and the document's public face. */
public final class LanguageTest {
    private static final String[] FACE = {
        "boolean ring(int,int)", "boolean weights(int,int,int)", "int feed(int,int,int,int,int)", "boolean end(int)",
        "int poly(int)", "int fault(int)", "int show(int)", "int out(int)", "int term(int,int,int)",
        "int shape(int,int)", "int make(int,int,int,int)", "int part(int,int,int)", "int weak(int,int)",
        "int kept(int,int)", "int step(int,int)", "int corners(int,int)", "int corner(int,int,int,int)",
        "int stairs(int,int,int)", "int stair(int,int,int,int)", "int rest(int,int,int,int)", "int length(int,int)",
        "int number(int,int)", "int all(int,int)", "int look(int)"
    };
    private static final String[] NOT_IN_IT = {
        "\\bthrow\\b", "\\btry\\b", "\\bcatch\\b", "\\bfinally\\b", "\\bsynchronized\\b", "\\bassert\\b", "->", "::",
        "\\bExact\\b", "Exact\\(", "\\bprotected\\b", "\\bpackage\\b", "\\bequals\\(", "\\bhashCode\\b", "\\btoString\\b",
        "@", "\\bstatic\\s*\\{", "\\bvolatile\\b", "\\bnative\\b", "\\btransient\\b", "\\bstrictfp\\b",
        "System\\.(?!arraycopy)", "Math\\.(?!min|max|abs)", "Arrays\\.(?!fill)", "\\[\\]\\[\\]\\[\\]"
    };

    public static void main(String[] args) throws IOException {
        face();
        inside();
        names();
        text(Files.readString(Path.of("src/main/java/StairsNear.java")));
        Check.finish();
    }

    private static void face() {
        Set<String> got = new TreeSet<>();
        for (Method method : StairsNear.class.getDeclaredMethods()) {
            if (!Modifier.isPrivate(method.getModifiers())) {
                got.add(method.toGenericString().replace("StairsNear.", ""));
            }
        }
        Set<String> want = new TreeSet<>();
        for (String one : FACE) {
            want.add("public " + one);
        }
        Check.due("the face", got.toString(), want.toString());
        for (Field field : StairsNear.class.getDeclaredFields()) {
            boolean open = !Modifier.isPrivate(field.getModifiers());
            Check.due("field " + field.getName() + " is open", open, field.getName().equals("NONE"));
        }
        Constructor<?>[] constructors = StairsNear.class.getDeclaredConstructors();
        Check.due("constructors", constructors.length, 1);
        Check.due("public, no arguments", Modifier.isPublic(constructors[0].getModifiers()), true);
        Check.due("its arguments", constructors[0].getParameterCount(), 0);
        Check.due("final", Modifier.isFinal(StairsNear.class.getModifiers()), true);
    }

    private static void inside() {
        Class<?>[] classes = StairsNear.class.getDeclaredClasses();
        Check.due("at most twelve classes", classes.length < 12, true);
        for (Class<?> one : classes) {
            Check.due(one.getName() + " is static", Modifier.isStatic(one.getModifiers()), true);
            Check.due(one.getName() + " is not open", Modifier.isPublic(one.getModifiers()), false);
            looksAtMembers(one);
        }
        looksAtMembers(StairsNear.class);
    }

    private static void looksAtMembers(Class<?> one) {
        int fields = 0;
        for (Field field : one.getDeclaredFields()) {
            if (Modifier.isStatic(field.getModifiers())) {
                Check.due(one.getName() + "." + field.getName() + " is final", Modifier.isFinal(field.getModifiers()), true);
                Check.due(field.getName() + " is an int", field.getType() == int.class, true);
            } else {
                fields++;
            }
        }
        Check.due(one.getName() + " has at most twenty fields", fields <= 20, true);
        for (Method method : one.getDeclaredMethods()) {
            Check.due(method.getName() + " takes at most seven", method.getParameterCount() <= 7, true);
        }
    }

    private static void names() {
        Set<String> open = new TreeSet<>();
        for (String one : FACE) {
            open.add(one.replaceAll(".* (\\w+)\\(.*", "$1"));
        }
        for (Class<?> one : StairsNear.class.getDeclaredClasses()) {
            for (Method method : one.getDeclaredMethods()) {
                Check.due(one.getSimpleName() + "." + method.getName() + " bears a public name",
                    open.contains(method.getName()), false);
            }
        }
        for (Method method : StairsNear.class.getDeclaredMethods()) {
            boolean hidden = Modifier.isPrivate(method.getModifiers());
            Check.due(method.getName() + " bears a public name", hidden && open.contains(method.getName()), false);
        }
    }

    private static void text(String source) {
        String code = source.replaceAll("(?s)/\\*.*?\\*/", "").replaceAll("//[^\n]*", "");
        for (String one : NOT_IN_IT) {
            Matcher found = Pattern.compile(one).matcher(code);
            Check.due("\"" + one + "\" stands in it", found.find(), false);
        }
        Set<String> imports = new TreeSet<>();
        Arrays.stream(code.split("\n")).filter(line -> line.startsWith("import")).forEach(imports::add);
        Check.due("imports", imports.toString(), "[import java.util.Arrays;]");
        Check.due("signs 1 to 127 alone", source.chars().allMatch(c -> c > 0 && c < 128), true);
        methodsAreShort(source);
    }

    private static void methodsAreShort(String source) {
        String[] lines = source.split("\n");
        int begin = 0;
        for (int i = 0; i < lines.length; i++) {
            if (lines[i].matches(" {4,8}[a-zA-Z].*\\) \\{") && !lines[i].contains(" class ")) {
                begin = i;
            }
            if (lines[i].matches(" {4,8}\\}")) {
                Check.due("line " + (begin + 1) + " begins more than 60", i - begin > 60, false);
            }
        }
    }
}
