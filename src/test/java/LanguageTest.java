import java.io.IOException;
import java.lang.reflect.Field;
import java.lang.reflect.Method;
import java.lang.reflect.Modifier;
import java.nio.file.Files;
import java.nio.file.Path;
import java.util.ArrayList;
import java.util.Arrays;
import java.util.List;
import java.util.Set;
import java.util.TreeSet;
import java.util.regex.Matcher;
import java.util.regex.Pattern;

/** The rules of LANGUAGE.md that can be seen in the text and in the classes of the program. */
public final class LanguageTest {
    private static final Set<String> FACE = Set.of("match", "player", "pair", "worth", "feed", "law", "other", "rule",
            "may", "after", "chance", "best", "by", "says", "edge", "kept", "together", "slower", "game", "mixed",
            "happens", "undo", "logged", "wrong", "worst", "seed", "draw", "fresh", "season", "check", "count");
    private static final Pattern LIBRARY = Pattern.compile("(Math|Integer|Long)\\.(?!\\w*Exact\\b)\\w+"
            + "|Arrays\\.(copyOf|copyOfRange|fill)|System\\.arraycopy|List\\.of");
    private static final Pattern IMPORT = Pattern.compile("import java\\.util\\.(ArrayList|List|Arrays|Iterator);");

    private final Due due = new Due();

    public static void main(String[] args) throws IOException {
        LanguageTest test = new LanguageTest();
        String text = Files.readString(Path.of("src/main/java/ThreeToSend.java"));
        test.words(text);
        test.methods(text);
        test.classes();
        test.due.close("LanguageTest");
    }

    private void words(String text) {
        due.is("signs are 1 to 127", text.chars().allMatch(c -> c > 0 && c < 128), true);
        String bare = text.replaceAll("//.*", "").replaceAll("\"(\\\\.|[^\"\\\\])*\"", "\"\"");
        String[] banned = {"throw", "throws", "try", "catch", "synchronized", "assert", "package", "volatile", "native",
            "transient", "protected", "Thread", "Object", "hashCode"};
        for (String word : banned) {
            due.is("no " + word, Pattern.compile("\\b" + word + "\\b").matcher(bare).find(), false);
        }
        for (String sign : new String[] {"::", "static {", "@", "String toString(", "boolean equals("}) {
            due.is("no " + sign, bare.contains(sign), false);
        }
        for (String line : bare.lines().toList()) {
            boolean isOfSwitch = line.trim().startsWith("case ") || line.trim().startsWith("default ");
            due.is("no lambda: " + line, line.contains("->") && !isOfSwitch, false);
            due.is("an import of the list: " + line, !line.startsWith("import") || IMPORT.matcher(line).matches(), true);
        }
        Matcher calls = Pattern.compile("\\b(Math|Integer|Long|Arrays|System|List)\\.\\w+").matcher(bare);
        while (calls.find()) {
            due.is(calls.group() + " is of the library", LIBRARY.matcher(calls.group()).matches(), true);
        }
    }

    private void methods(String text) {
        List<String> lines = text.lines().toList();
        int from = -1;
        String name = "";
        for (int i = 0; i < lines.size(); i++) {
            String line = lines.get(i);
            if (line.matches("(    |        )[\\w].*\\) \\{") && !line.contains(" class ")) {
                from = i;
                name = line.trim();
            }
            if (from >= 0 && (line.equals("    }") || line.equals("        }"))
                    && line.indexOf('}') == lines.get(from).indexOf(lines.get(from).trim())) {
                due.is("a short method: " + name, i - from < 60, true);
                from = -1;
            }
        }
    }

    private void classes() {
        List<Class<?>> all = new ArrayList<>(Arrays.asList(ThreeToSend.class.getDeclaredClasses()));
        due.is("some twelve classes", all.size() <= 12, true);
        for (Class<?> inner : all) {
            due.is(inner + " is static", Modifier.isStatic(inner.getModifiers()), true);
            int how = inner.getModifiers();
            due.is(inner + " is not public", Modifier.isPublic(how) || Modifier.isProtected(how), false);
        }
        all.add(ThreeToSend.class);
        for (Class<?> one : all) {
            fields(one);
            for (Method method : one.getDeclaredMethods()) {
                due.is(method + " takes at most seven", method.getParameterCount() <= 7, true);
                boolean isOfFace = FACE.contains(method.getName()) && one == ThreeToSend.class;
                due.is(method + " is of the face", Modifier.isPublic(method.getModifiers()), isOfFace);
                if (!isOfFace) {
                    due.is(method + " bears no name of the face", FACE.contains(method.getName()), false);
                }
                if (one == ThreeToSend.class && !isOfFace) {
                    due.is(method + " is private", Modifier.isPrivate(method.getModifiers()), true);
                }
            }
        }
        Set<String> names = new TreeSet<>();
        for (Method method : ThreeToSend.class.getDeclaredMethods()) {
            if (Modifier.isPublic(method.getModifiers())) {
                names.add(method.getName());
            }
        }
        due.is("the whole face", names.equals(new TreeSet<>(FACE)), true);
    }

    private void fields(Class<?> one) {
        int own = 0;
        for (Field field : one.getDeclaredFields()) {
            int how = field.getModifiers();
            if (Modifier.isStatic(how)) {
                due.is(field + " is final", Modifier.isFinal(how), true);
            } else {
                own++;
            }
            if (one == ThreeToSend.class) {
                due.is(field + " is private", Modifier.isPrivate(how), !field.getName().equals("NONE"));
            }
        }
        due.is(one + " has some twenty fields", own <= 20, true);
    }
}
