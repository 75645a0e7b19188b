import java.io.IOException;
import java.lang.reflect.Constructor;
import java.lang.reflect.Field;
import java.lang.reflect.Method;
import java.lang.reflect.Modifier;
import java.nio.file.Files;
import java.nio.file.Path;
import java.util.HashSet;
import java.util.Set;
import java.util.TreeSet;
import java.util.regex.Matcher;
import java.util.regex.Pattern;

/** The rules of LANGUAGE.md that can be seen from the text and the face of the class. */
public final class LanguageTest {
    private static final String[] FACE = {"table", "arrows", "begin", "size", "turn", "back", "b", "terms", "term",
        "least", "ones", "keep", "same", "all", "what", "finite", "step", "tables", "row", "order", "ring", "fence",
        "flip", "ringOf", "frieze", "way", "goes", "seed", "count"};
    private static final String[] BANNED = {"\\bthrow\\b", "\\bthrows\\b", "\\btry\\b", "\\bcatch\\b",
        "\\bsynchronized\\b", "\\bassert\\b", "->", "::", "\\bhashCode\\b", "\\btoString\\b", "Exact\\b",
        "\\bSystem\\.(?!arraycopy\\b)", "\\bObject\\b", "\\bThread\\b", "\\bRandom\\b", "@Override", "^package\\b"};

    private final Check check = new Check();

    public static void main(String[] args) throws IOException {
        LanguageTest test = new LanguageTest();
        String path = System.getProperty("seedbench.source", "src/main/java/SeedBench.java");
        String text = Files.readString(Path.of(path)).replaceAll("(?s)/\\*.*?\\*/", "").replaceAll("//[^\n]*", "");
        test.face();
        test.classesInside();
        test.text(text);
        test.calls(text);
        test.check.end();
    }

    private void face() {
        Set<String> names = new TreeSet<>(Set.of(FACE));
        Set<String> found = new TreeSet<>();
        check.due("final", Modifier.isFinal(SeedBench.class.getModifiers()), true);
        for (Method method : SeedBench.class.getDeclaredMethods()) {
            if (Modifier.isPublic(method.getModifiers())) {
                found.add(method.getName());
            } else {
                check.due(method + " is private", Modifier.isPrivate(method.getModifiers()), true);
                check.due(method + " bears a public name", names.contains(method.getName()), false);
            }
        }
        check.due("public methods " + found, found.equals(names), true);
        for (Field field : SeedBench.class.getDeclaredFields()) {
            boolean isPublic = field.getName().equals("NONE");
            check.due(field + " is private", Modifier.isPrivate(field.getModifiers()), !isPublic);
        }
        Constructor<?>[] constructors = SeedBench.class.getDeclaredConstructors();
        check.due("constructors", constructors.length, 1);
        check.due("public", Modifier.isPublic(constructors[0].getModifiers()), true);
    }

    private void classesInside() {
        Set<String> names = Set.of(FACE);
        Class<?>[] classes = SeedBench.class.getDeclaredClasses();
        check.due("some twelve classes", classes.length <= 11, true);
        for (Class<?> inside : classes) {
            check.due(inside + " is static", Modifier.isStatic(inside.getModifiers()), true);
            check.due(inside + " has no classes", inside.getDeclaredClasses().length, 0);
            check.due(inside + " has some twenty fields", inside.getDeclaredFields().length <= 20, true);
            for (Method method : inside.getDeclaredMethods()) {
                check.due(method + " bears a public name", names.contains(method.getName()), false);
                check.due(method + " has seven parameters", method.getParameterCount() <= 7, true);
            }
            for (Field field : inside.getDeclaredFields()) {
                check.due(field + " is no static state", Modifier.isStatic(field.getModifiers()), false);
            }
        }
    }

    private void text(String text) {
        for (String banned : BANNED) {
            Matcher matcher = Pattern.compile(banned, Pattern.MULTILINE).matcher(text);
            check.due("the source has " + banned, matcher.find(), false);
        }
        Matcher imports = Pattern.compile("^import (.*);", Pattern.MULTILINE).matcher(text);
        while (imports.find()) {
            check.due("import " + imports.group(1), imports.group(1).equals("java.util.Arrays"), true);
        }
    }

    /** Library functions are those that the rules list. */
    private void calls(String text) {
        Set<String> known = Set.of("Math.max", "Math.min", "Math.abs", "Integer.signum", "Long.bitCount",
                "Arrays.fill", "System.arraycopy");
        Set<String> strange = new HashSet<>();
        Matcher matcher = Pattern.compile("\\b(Math|Integer|Long|Arrays|System)\\.\\w+").matcher(text);
        while (matcher.find()) {
            if (!known.contains(matcher.group())) {
                strange.add(matcher.group());
            }
        }
        check.due("library calls that are not known to be fine " + strange, strange.size(), 0);
    }
}
