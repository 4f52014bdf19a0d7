import java.io.File;
import java.io.IOException;
import java.nio.charset.StandardCharsets;
import java.nio.file.Files;
import java.nio.file.Path;
import java.util.ArrayList;
import java.util.Arrays;
import java.util.List;
import java.util.Set;
import java.util.TreeSet;
import java.util.regex.Matcher;
import java.util.regex.Pattern;

/** README.md: its example prints what it tells, its calls answer what stands behind them, its tests are there. */
final class ReadmeTest {
    private static final Pattern BLOCK = Pattern.compile("(?ms)^```(\\w+)\\n(.*?)^```$");
    private static final Pattern CALL = Pattern.compile("x\\.(\\w+)\\((.*)\\); // ([-\\w]+)(: .*)?");
    private static final Pattern TOLD = Pattern.compile("(HalfDone x = new HalfDone\\(\\);|tell\\(x, \"[^\"]*\"\\);)");

    private final Set<String> shown = new TreeSet<>();
    private final StringBuilder calls = new StringBuilder();
    private String example = "";
    private String printed = "";
    private String commands = "";

    public static void main(String[] args) throws IOException, InterruptedException {
        ReadmeTest page = new ReadmeTest();
        page.read(Files.readString(Path.of("README.md")));
        page.tryAll();
        page.names();
        Check.finish();
    }

    private void read(String text) {
        Matcher block = BLOCK.matcher(text);
        while (block.find()) {
            String inside = block.group(2);
            switch (block.group(1)) {
                case "sh" -> commands += inside;
                case "text" -> printed += inside;
                default -> {
                    if (inside.contains("class Example")) {
                        example += inside;
                    } else {
                        inside.lines().forEach(this::readCall);
                    }
                }
            }
        }
    }

    /** A line is a call with its answer behind it, or tells the object something; no other is understood. */
    private void readCall(String line) {
        Matcher call = CALL.matcher(line);
        if (call.matches()) {
            shown.add(call.group(1));
            calls.append(tried(line.substring(0, line.indexOf(';')), call.group(3)));
        } else {
            Check.due("README.md: '" + line + "' is understood", TOLD.matcher(line).matches(), true);
            calls.append(line.replace("tell(x", "Example.tell(x")).append('\n');
        }
    }

    private static String tried(String call, String answer) {
        String said = "\"README.md: " + call + "\"";
        if (answer.equals("NoSuchElementException")) {
            return "try { " + call + "; Check.due(" + said + ", false, true); }"
                    + " catch (java.util.NoSuchElementException e) { Check.due(" + said + ", true, true); }\n";
        }
        boolean constant = answer.equals("NONE") || answer.equals("HIDDEN");
        return "Check.due(" + said + ", " + call + ", " + (constant ? "HalfDone." : "") + answer + ");\n";
    }

    private void tryAll() throws IOException, InterruptedException {
        Path place = Files.createTempDirectory("readme");
        String classes = System.getProperty("java.class.path") + File.pathSeparator + place;
        Path first = Files.writeString(place.resolve("Example.java"), example);
        Path second = Files.writeString(place.resolve("ReadmeCalls.java"), "final class ReadmeCalls {\n"
                + "public static void main(String[] args) {\n" + calls + "Check.finish();\n}\n}\n");
        run("javac", "-cp", classes, "-d", place.toString(), first.toString(), second.toString());
        String said = run("java", "-cp", classes, "Example");
        Check.due("README.md's example printed '" + said + "', it tells '" + printed + "'", said.equals(printed), true);
        said = run("java", "-cp", classes, "ReadmeCalls");
        System.out.print(said);
        Check.due("README.md's answers are due", said.matches("\\d+ answers looked at, 0 not as due\\R"), true);
        for (File file : place.toFile().listFiles()) {
            Files.delete(file.toPath());
        }
        Files.delete(place);
    }

    private static String run(String... command) throws IOException, InterruptedException {
        Process process = new ProcessBuilder(command).redirectError(ProcessBuilder.Redirect.INHERIT).start();
        String said = new String(process.getInputStream().readAllBytes(), StandardCharsets.UTF_8);
        int code = process.waitFor();
        Check.due(String.join(" ", command) + " ended with", code, 0);
        return said;
    }

    /** Each call of the face is shown; files and tests that are named are there. */
    private void names() {
        List<String> face = new ArrayList<>();
        Arrays.stream(HalfDone.class.getMethods()).filter(m -> m.getDeclaringClass() == HalfDone.class)
                .forEach(m -> face.add(m.getName()));
        for (String one : face) {
            Check.due("README.md shows " + one, shown.contains(one), true);
        }
        int tests = 0;
        for (String line : commands.split("\n")) {
            for (String word : line.split(" ")) {
                if (word.matches("\\w+(Test|Runs)")) {
                    tests++;
                    Check.due(word + " is a test", new File("src/test/java/" + word + ".java").exists()
                            || new File("../shared/tests/" + word + ".java").exists(), true);
                }
            }
        }
        Check.due("README.md runs one test alone", tests > 0, true);
        Check.due("README.md runs all tests", commands.lines().anyMatch("bash .ci/run"::equals), true);
    }
}
