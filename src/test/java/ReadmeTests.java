import java.io.ByteArrayOutputStream;
import java.io.IOException;
import java.io.PrintStream;
import java.lang.reflect.Method;
import java.lang.reflect.Modifier;
import java.net.URL;
import java.net.URLClassLoader;
import java.nio.charset.StandardCharsets;
import java.nio.file.DirectoryStream;
import java.nio.file.Files;
import java.nio.file.Path;
import java.util.ArrayList;
import java.util.Arrays;
import java.util.List;
import java.util.regex.Matcher;
import java.util.regex.Pattern;
import javax.tools.ToolProvider;

/** What README.md says of the class: its program is run, its lists are whole. */
public final class ReadmeTests {
    private static final Checks C = new Checks();
    private static final String[] WORDS = {"lamp", "pull", "lit", "ring", "mend", "burn", "seed", "law toll",
        "law stick", "law fate", "or", "and", "not", "cost", "worn", "shown", "ties", "out", "age", "minute"};

    public static void main(String[] args) throws Exception {
        String readme = Files.readString(Path.of("README.md"));
        program(readme);
        calls(readme);
        for (String word : WORDS) {
            C.due("the word " + word, Pattern.compile("`" + word + "[` ]").matcher(readme).find(), true);
        }
        tests(readme);
        C.end("ReadmeTests");
    }

    private static void program(String readme) throws Exception {
        Matcher block = Pattern.compile("(?s)```java\n(.*?)```").matcher(readme);
        C.due("a program", block.find(), true);
        String source = block.group(1);
        List<String> due = new ArrayList<>();
        Matcher comment = Pattern.compile("\\); *// (-?\\d+): ").matcher(source);
        while (comment.find()) {
            due.add(comment.group(1));
        }
        List<String> printed = printedBy(source);
        C.due("every line that is printed has its comment", source.split("println\\(", -1).length - 1, due.size());
        C.due("the program prints " + printed + " for " + due, printed.equals(due), true);
    }

    private static List<String> printedBy(String source) throws Exception {
        Path folder = Files.createTempDirectory("readme");
        PrintStream before = System.out;
        ByteArrayOutputStream caught = new ByteArrayOutputStream();
        try (URLClassLoader loader = new URLClassLoader(new URL[] {folder.toUri().toURL()})) {
            Path file = Files.writeString(folder.resolve("Example.java"), source);
            int ended = ToolProvider.getSystemJavaCompiler().run(null, null, null, "-cp",
                    System.getProperty("java.class.path"), "-d", folder.toString(), file.toString());
            C.due("the program compiles", ended, 0);
            System.setOut(new PrintStream(caught, true, StandardCharsets.US_ASCII));
            loader.loadClass("Example").getMethod("main", String[].class).invoke(null, (Object) new String[0]);
        } finally {
            System.setOut(before);
            empty(folder);
        }
        return Arrays.asList(caught.toString(StandardCharsets.US_ASCII).trim().split("\\s+"));
    }

    private static void empty(Path folder) throws IOException {
        try (DirectoryStream<Path> files = Files.newDirectoryStream(folder)) {
            for (Path file : files) {
                Files.delete(file);
            }
        }
        Files.delete(folder);
    }

    /** A row of a table for each call, with as many arguments as it takes. */
    private static void calls(String readme) {
        for (Method m : BellPulls.class.getDeclaredMethods()) {
            if (Modifier.isPublic(m.getModifiers())) {
                String argument = "[a-z]+";
                String arguments = argument + (", " + argument).repeat(Math.max(0, m.getParameterCount() - 1));
                String call = m.getName() + "\\(" + (m.getParameterCount() == 0 ? "" : arguments) + "\\)";
                C.due("a row for " + m, Pattern.compile("\n\\| `" + call + "` \\| \\S").matcher(readme).find(), true);
            }
        }
    }

    private static void tests(String readme) throws IOException {
        try (DirectoryStream<Path> files = Files.newDirectoryStream(Path.of("src/test/java"), "*Tests.java")) {
            for (Path file : files) {
                String name = file.getFileName().toString().replace(".java", "");
                C.due("a row for " + name, readme.contains("\n| " + name + " | "), true);
            }
        }
    }
}
