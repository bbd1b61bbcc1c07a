import java.io.File;
import java.io.IOException;
import java.lang.reflect.Method;
import java.lang.reflect.Modifier;
import java.net.URL;
import java.net.URLClassLoader;
import java.nio.file.Files;
import java.nio.file.Path;
import java.util.ArrayList;
import java.util.List;
import java.util.regex.Matcher;
import java.util.regex.Pattern;
import javax.tools.ToolProvider;

/** What README.md says: each line of its example answers what stands behind it, and no method of the face is left out. */
public final class ReadmeTest {
    private static final Pattern BLOCK = Pattern.compile("```java\n(.*?)```", Pattern.DOTALL);
    private static final Pattern LINE = Pattern.compile("(bench\\..*);\\s*// (true|false|-?\\d+).*");

    private final Due due = new Due();

    public static void main(String[] args) throws IOException {
        ReadmeTest test = new ReadmeTest();
        String text = Files.readString(Path.of("README.md"));
        test.isWhole(text);
        test.runs(text);
        test.due.close("ReadmeTest");
    }

    private void isWhole(String text) {
        for (Method method : ThreeToSend.class.getDeclaredMethods()) {
            if (Modifier.isPublic(method.getModifiers())) {
                String name = method.getName();
                due.is(name + " stands in the table", Pattern.compile("\\|.*`" + name + "`").matcher(text).find(), true);
                due.is(name + " stands in the example", text.contains("bench." + name + "("), true);
            }
        }
    }

    /** The first block is a function, all others what is called. */
    private void runs(String text) throws IOException {
        List<String> blocks = new ArrayList<>();
        Matcher found = BLOCK.matcher(text);
        while (found.find()) {
            blocks.add(found.group(1));
        }
        due.is("blocks of Java", blocks.size(), 2);
        if (blocks.size() != 2) {
            return;
        }
        StringBuilder program = new StringBuilder("final class Example {\n").append(blocks.get(0));
        program.append("static boolean run() {\nDue due = new Due();\n");
        int told = 0;
        for (String line : blocks.get(1).lines().toList()) {
            Matcher answer = LINE.matcher(line);
            if (answer.matches()) {
                told++;
                String call = answer.group(1);
                program.append("due.is(\"README: ").append(call.replace("\"", "'")).append("\", ").append(call);
                program.append(", ").append(answer.group(2)).append(");\n");
            } else {
                due.is("an answer stands behind: " + line, line.isEmpty() || line.endsWith("new ThreeToSend();"), true);
                program.append(line).append('\n');
            }
        }
        due.is("lines with answers", told > 30, true);
        compileAndRun(program.append("return due.isAllRight();\n}\n}\n").toString());
    }

    private void compileAndRun(String program) throws IOException {
        Path room = Files.createTempDirectory("readme");
        Path file = room.resolve("Example.java");
        Files.writeString(file, program);
        String classes = System.getProperty("java.class.path");
        int result = ToolProvider.getSystemJavaCompiler().run(null, null, null, "-cp", classes, "-d", room.toString(),
                file.toString());
        due.is("the example compiles", result, 0);
        if (result == 0) {
            run(room);
        }
        for (String name : new String[] {"Example.class", "Example.java", ""}) {
            Files.deleteIfExists(room.resolve(name));
        }
    }

    /** By a loader that has the program and the example together, since the example stands in the same package. */
    private void run(Path room) throws IOException {
        List<URL> places = new ArrayList<>();
        places.add(room.toUri().toURL());
        for (String place : System.getProperty("java.class.path").split(File.pathSeparator)) {
            places.add(Path.of(place).toUri().toURL());
        }
        boolean isRight = false;
        try (URLClassLoader loader = new URLClassLoader(places.toArray(new URL[0]), null)) {
            Method method = loader.loadClass("Example").getDeclaredMethod("run");
            method.setAccessible(true);
            isRight = (Boolean) method.invoke(null);
        } catch (ReflectiveOperationException wrong) {
            System.out.println(wrong);
        }
        due.is("the example answers as it says", isRight, true);
    }
}
