import java.io.File;
import java.net.URL;
import java.net.URLClassLoader;
import java.nio.charset.StandardCharsets;
import java.nio.file.Files;
import java.nio.file.Path;
import java.util.ArrayList;
import java.util.List;
import java.util.concurrent.TimeUnit;
import java.util.regex.Matcher;
import java.util.regex.Pattern;
import java.util.stream.Stream;

/**
 * README.md shows calls with their answers behind them. Its code is written into a class as it stands there, compiled
 * and run; each call must answer as the page says.
 */
final class ReadmeTest {
    private static final Pattern BLOCK = Pattern.compile("```java\n(.*?)```", Pattern.DOTALL);
    private static final Pattern CALL = Pattern.compile("(\\w+\\.\\w+\\(.*\\));\\s*// (-?\\d+)(?::.*)?");
    private static final Pattern METHOD = Pattern.compile("fold\\.(\\w+)\\(");
    private static final int LEAST_CALLS = 45;
    private static final String[] SHOWN = {
        "erase", "fault", "field", "square", "hedge", "night", "sides", "edges", "yards", "fold", "clear", "judge", "why",
        "moved", "few", "two", "fewest", "best", "courses", "round", "broken", "goes", "count", "write"};

    public static void main(String[] args) throws Exception {
        String page = Files.readString(Path.of("README.md"), StandardCharsets.UTF_8);
        showsEachCall(page);
        Path place = Files.createTempDirectory("readme");
        try {
            Files.writeString(place.resolve("ReadmeCalls.java"), classOf(page));
            runCalls(place);
        } finally {
            remove(place);
        }
        Check.end();
    }

    private static void showsEachCall(String page) {
        List<String> shown = new ArrayList<>();
        Matcher matcher = METHOD.matcher(page);
        while (matcher.find()) {
            shown.add(matcher.group(1));
        }
        for (String name : SHOWN) {
            Check.due("the page shows " + name, shown.contains(name) ? 1 : 0, 1);
        }
    }

    /** Blocks that begin with a method are the class's own; the lines of all others are one run. */
    private static String classOf(String page) {
        StringBuilder methods = new StringBuilder();
        StringBuilder run = new StringBuilder();
        Matcher blocks = BLOCK.matcher(page);
        while (blocks.find()) {
            if (blocks.group(1).startsWith("static ")) {
                methods.append(blocks.group(1));
            } else {
                blocks.group(1).lines().forEach(line -> run.append(lineOf(line)).append('\n'));
            }
        }
        return "public class ReadmeCalls {\n" + methods + "public static java.util.List<Object[]> answers() {\n"
            + "java.util.List<Object[]> answers = new java.util.ArrayList<>();\n" + run + "return answers;\n}\n}\n";
    }

    private static String lineOf(String line) {
        Matcher call = CALL.matcher(line);
        if (!call.matches()) {
            return line;
        }
        String text = call.group(1).replace("\"", "'");
        return "answers.add(new Object[] {\"" + text + "\", (long) " + call.group(1) + ", " + call.group(2) + "L});";
    }

    private static void runCalls(Path place) throws Exception {
        String classes = System.getProperty("java.class.path");
        Process compiler = new ProcessBuilder("javac", "-cp", classes, "-d", place.toString(),
            place.resolve("ReadmeCalls.java").toString()).inheritIO().start();
        boolean ended = compiler.waitFor(2, TimeUnit.MINUTES);
        Check.due("the page's code compiles", ended ? compiler.exitValue() : 1, 0);
        if (!ended || compiler.exitValue() != 0) {
            return;
        }
        try (URLClassLoader loader = new URLClassLoader(new URL[] {place.toUri().toURL()})) {
            List<?> answers = (List<?>) loader.loadClass("ReadmeCalls").getMethod("answers").invoke(null);
            for (Object answer : answers) {
                Object[] told = (Object[]) answer;
                Check.due("README: " + told[0], (Long) told[1], (Long) told[2]);
            }
            Check.due("calls with answers: " + answers.size(), answers.size() >= LEAST_CALLS ? 1 : 0, 1);
        }
    }

    private static void remove(Path place) throws Exception {
        try (Stream<Path> files = Files.list(place)) {
            files.map(Path::toFile).forEach(File::delete);
        }
        Files.delete(place);
    }
}
