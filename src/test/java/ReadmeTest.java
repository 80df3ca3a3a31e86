import java.io.ByteArrayOutputStream;
import java.io.IOException;
import java.io.InputStream;
import java.lang.reflect.Field;
import java.lang.reflect.Method;
import java.lang.reflect.Modifier;
import java.nio.charset.StandardCharsets;
import java.nio.file.DirectoryStream;
import java.nio.file.Files;
import java.nio.file.Path;
import java.util.ArrayList;
import java.util.List;
import java.util.regex.Matcher;
import java.util.regex.Pattern;
import javax.tools.JavaCompiler;
import javax.tools.ToolProvider;

/** README.md tells the truth: its program runs as told, nothing is missing. Run from the project's root. */
public final class ReadmeTest {
    private static final Path PAGE = Path.of("README.md"), TESTS = Path.of("src/test/java");
    private static final Pattern ROW = Pattern.compile("^\\| `(\\w+)\\((.*?)\\)` \\|.*\\| ([A-Z, ]*)\\|$", Pattern.MULTILINE);
    private static final Pattern FILE = Pattern.compile("(?:src|\\.\\./shared|\\.ci)/[\\w./]+\\w");

    private final Check check = new Check("ReadmeTest");
    private final String page;

    private ReadmeTest(String page) {
        this.page = page;
    }

    public static void main(String[] args) throws IOException, InterruptedException, IllegalAccessException {
        ReadmeTest test = new ReadmeTest(Files.readString(PAGE));
        test.itsProgramRuns();
        test.itNamesEveryCall();
        test.itNamesEveryConstant();
        test.itTellsRefusalsAsTheDocument();
        test.itNamesEveryTest();
        test.itsFilesAreThere();
        test.check.end();
    }

    private String block(String sort) {
        String opening = "```" + sort + "\n";
        int from = page.indexOf(opening);
        int to = from < 0 ? -1 : page.indexOf("```", from + opening.length());
        check.holds("it has a block of " + sort, to > 0);
        return to < 0 ? "" : page.substring(from + opening.length(), to);
    }

    private void itsProgramRuns() throws IOException, InterruptedException {
        Path place = Files.createTempDirectory("tour");
        Path program = place.resolve("Tour.java");
        Files.writeString(program, block("java"));
        JavaCompiler compiler = ToolProvider.getSystemJavaCompiler();
        ByteArrayOutputStream said = new ByteArrayOutputStream();
        String classes = System.getProperty("java.class.path");
        int ended = compiler == null ? 1 : compiler.run(null, said, said, "-Xlint:all", "-Werror",
                "-cp", classes, "-d", place.toString(), program.toString());
        check.holds("its program compiles: " + said.toString(StandardCharsets.UTF_8), ended == 0);
        Process run = new ProcessBuilder(Path.of(System.getProperty("java.home"), "bin", "java").toString(),
                "-cp", place + System.getProperty("path.separator") + classes, "Tour").redirectErrorStream(true).start();
        String printed;
        try (InputStream output = run.getInputStream()) {
            printed = new String(output.readAllBytes(), StandardCharsets.UTF_8);
        }
        check.due("exit code of its program", run.waitFor(), 0);
        check.holds("its program prints what stands there, not:\n" + printed,
                printed.replace("\r\n", "\n").equals(block("text")));
        try (DirectoryStream<Path> files = Files.newDirectoryStream(place)) {
            for (Path file : files) {
                Files.delete(file);
            }
        }
        Files.delete(place);
    }

    private void itNamesEveryCall() {
        List<String> rows = new ArrayList<>();
        Matcher row = ROW.matcher(page);
        while (row.find()) {
            // "long bytes, int n" is told as (long,int), as the machine tells it.
            rows.add(row.group(1) + "(" + row.group(2).replaceAll(" \\w+(, |$)", "$1").replace(", ", ",") + ")");
        }
        int calls = 0;
        for (Method method : NoonTrains.class.getDeclaredMethods()) {
            if (Modifier.isPublic(method.getModifiers())) {
                calls++;
                StringBuilder types = new StringBuilder();
                for (Class<?> type : method.getParameterTypes()) {
                    types.append(types.length() == 0 ? "" : ",").append(type.getName());
                }
                String call = method.getName() + "(" + types + ")";
                check.holds("it names " + call, rows.contains(call));
            }
        }
        check.due("calls that it names", rows.size(), calls);
    }

    private void itNamesEveryConstant() throws IllegalAccessException {
        for (Field field : NoonTrains.class.getDeclaredFields()) {
            if (Modifier.isPublic(field.getModifiers())) {
                String name = "`" + field.getName() + "`";
                int value = field.getInt(null);
                check.holds("it tells " + name + " with its value",
                        page.contains("| " + name + " | " + value + " |") || page.contains(name + " (" + value + ")"));
            }
        }
    }

    /** The refusals of each call are those that its promise names. */
    private void itTellsRefusalsAsTheDocument() throws IOException {
        Path document = Path.of("../shared/DOC.md");
        if (!Files.exists(document)) {
            return;
        }
        String text = Files.readString(document);
        Matcher row = ROW.matcher(page);
        while (row.find()) {
            Matcher promise = Pattern.compile("## Promise \\d+: " + row.group(1) + "\n\n(.*)\n").matcher(text);
            boolean found = promise.find();
            check.holds("the document promises " + row.group(1), found);
            List<String> named = new ArrayList<>();
            for (String refusal : new String[] {"UNKNOWN", "OUTSIDE", "NOT", "FULL"}) {
                if (found && promise.group(1).matches(".*\\b" + refusal + "\\b.*")) {
                    named.add(refusal);
                }
            }
            check.holds(row.group(1) + " is refused with " + named, row.group(3).trim().equals(String.join(", ", named)));
        }
    }

    private void itNamesEveryTest() throws IOException {
        try (DirectoryStream<Path> files = Files.newDirectoryStream(TESTS, "*.java")) {
            for (Path file : files) {
                String name = file.getFileName().toString().replace(".java", "");
                check.holds("it names " + name, page.contains("`" + name + "`"));
            }
        }
    }

    private void itsFilesAreThere() {
        Matcher file = FILE.matcher(page);
        while (file.find()) {
            String name = file.group();
            check.holds("there is " + name, name.endsWith("SomethingTest.java") || Files.exists(Path.of(name)));
        }
    }
}
