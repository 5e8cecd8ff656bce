import java.io.ByteArrayOutputStream;
import java.io.File;
import java.io.IOException;
import java.lang.reflect.Method;
import java.nio.charset.StandardCharsets;
import java.nio.file.Files;
import java.nio.file.Path;
import javax.tools.ToolProvider;

/** What README.md tells of the class's use is so: its example compiles, and prints the text that stands behind it. */
public final class ReadmeTest {
    private static final Checks C = new Checks();

    private ReadmeTest() {
    }

    public static void main(String[] args) throws IOException, InterruptedException {
        String readme = Files.readString(Path.of("README.md")).replace("\r", "");
        String example = fenced(readme, "java");
        String due = fenced(readme, "text");
        C.part("README.md");
        C.holds("it has an example", example.contains("class Example") && !due.isEmpty());
        Path folder = Files.createDirectories(Path.of("build", "readme"));
        Path source = folder.resolve("Example.java");
        Files.writeString(source, example);
        C.due("the example compiles", compile(folder, source), 0);
        String printed = run(folder);
        C.holds("the example prints what is told, but printed:\n" + printed, printed.equals(due));
        namesEveryCall(readme);
        C.end();
    }

    /** What stands in the first block of that sort. */
    private static String fenced(String readme, String sort) {
        String opening = "```" + sort + "\n";
        int from = readme.indexOf(opening);
        int to = from < 0 ? -1 : readme.indexOf("```\n", from + opening.length());
        return to < 0 ? "" : readme.substring(from + opening.length(), to);
    }

    private static int compile(Path folder, Path source) {
        return ToolProvider.getSystemJavaCompiler().run(null, null, null, "-d", folder.toString(),
            "src/main/java/PaperHour.java", source.toString());
    }

    private static String run(Path folder) throws IOException, InterruptedException {
        String java = System.getProperty("java.home") + File.separator + "bin" + File.separator + "java";
        Process example = new ProcessBuilder(java, "-cp", folder.toString(), "Example").redirectErrorStream(true).start();
        ByteArrayOutputStream printed = new ByteArrayOutputStream();
        example.getInputStream().transferTo(printed);
        C.due("the example ends well", example.waitFor(), 0);
        return printed.toString(StandardCharsets.US_ASCII).replace("\r", "");
    }

    private static void namesEveryCall(String readme) {
        C.part("the table of calls");
        for (Method m : PaperHour.class.getMethods()) {
            if (m.getDeclaringClass() == PaperHour.class) {
                C.holds("it names " + m.getName(), readme.contains("`" + m.getName() + "`"));
            }
        }
    }
}
