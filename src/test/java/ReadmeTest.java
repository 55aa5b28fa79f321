import java.lang.reflect.Method;
import java.lang.reflect.Modifier;
import java.net.URL;
import java.net.URLClassLoader;
import java.nio.charset.StandardCharsets;
import java.nio.file.Files;
import java.nio.file.Path;
import java.util.Comparator;
import java.util.List;
import java.util.regex.MatchResult;
import java.util.regex.Pattern;
import java.util.spi.ToolProvider;
import java.util.stream.Stream;

/** What README.md shows can be done just so: its example gives the numbers beside it, every call is told. */
public final class ReadmeTest {
    private static final Pattern TOLD = Pattern.compile("(?m)^int (\\w+) = .*; +// (-?\\d+)\\b.*$");

    public static void main(String[] args) throws Exception {
        String readme = Files.readString(Path.of("README.md"), StandardCharsets.UTF_8);
        example(block(readme, "java"));
        calls(readme);
        commands(block(readme, "sh"));
        Told.close();
    }

    private static String block(String readme, String kind) {
        int start = readme.indexOf("```" + kind + "\n");
        int end = readme.indexOf("\n```", start + 3);
        Told.due("a block of " + kind, start >= 0 && end > start, true);
        return start >= 0 && end > start ? readme.substring(start + kind.length() + 4, end + 1) : "";
    }

    /** The example as a class of its own, that gives back each number beside which one stands. */
    private static void example(String lines) throws Exception {
        List<MatchResult> told = TOLD.matcher(lines).results().toList();
        Told.due("numbers beside calls, " + told.size(), told.size() >= 5, true);
        StringBuilder code = new StringBuilder("public class Shown { public static int[] numbers() {\n").append(lines);
        code.append("return new int[] {");
        told.forEach(each -> code.append(each.group(1)).append(", "));
        Path room = Files.createTempDirectory("readme");
        Path file = Files.writeString(room.resolve("Shown.java"), code.append("};}}\n"));
        Path classes = Path.of(ReadmeTest.class.getProtectionDomain().getCodeSource().getLocation().toURI());
        int failed = ToolProvider.findFirst("javac").orElseThrow()
                .run(System.out, System.out, "-cp", classes.toString(), "-d", room.toString(), file.toString());
        Told.due("README's example compiles", failed, 0);
        int[] numbers = failed == 0 ? numbersOf(room) : new int[0];
        for (int k = 0; k < numbers.length; k++) {
            Told.due("README: " + told.get(k).group(), numbers[k], Integer.parseInt(told.get(k).group(2)));
        }
        remove(room);
    }

    private static int[] numbersOf(Path room) throws Exception {
        URL[] where = {room.toUri().toURL()};
        try (URLClassLoader loader = new URLClassLoader(where, ReadmeTest.class.getClassLoader())) {
            return (int[]) loader.loadClass("Shown").getMethod("numbers").invoke(null);
        }
    }

    private static void remove(Path room) throws Exception {
        try (Stream<Path> all = Files.walk(room)) {
            for (Path each : all.sorted(Comparator.reverseOrder()).toList()) {
                Files.delete(each);
            }
        }
    }

    private static void calls(String readme) {
        for (Method method : LongProof.class.getDeclaredMethods()) {
            if (Modifier.isPublic(method.getModifiers())) {
                Told.due("README tells " + method.getName(), readme.contains("`" + method.getName() + "`"), true);
            }
        }
    }

    private static void commands(String lines) {
        List<String> files = Stream.of(lines.split("\\s+")).filter(word -> word.startsWith("src/")).toList();
        Told.due("README names files, " + files.size(), files.size() >= 2, true);
        for (String file : files) {
            Told.due("there is " + file, Files.exists(Path.of(file)), true);
        }
    }
}
