import java.io.ByteArrayOutputStream;
import java.io.PrintStream;
import java.lang.reflect.Method;
import java.net.URL;
import java.net.URLClassLoader;
import java.nio.charset.StandardCharsets;
import java.nio.file.Files;
import java.nio.file.Path;
import java.util.ArrayList;
import java.util.Arrays;
import java.util.Collections;
import java.util.List;
import java.util.regex.Matcher;
import java.util.regex.Pattern;
import javax.tools.ToolProvider;

/** What README.md says: its program prints what it says, its tables leave no call and no promise out. */
public final class ReadmeTest {
    private static final int PROMISES = 75;

    private ReadmeTest() {
    }

    public static void main(String[] args) throws Exception {
        String readme = Files.readString(Path.of("README.md"));
        Path place = Files.createTempDirectory("readme");
        try {
            String printed = printed(place, block(readme, "java"));
            Check.holds("the program prints what README.md says:\n" + printed, printed.equals(block(readme, "text")));
        } finally {
            for (Path file : List.of(place.resolve("Example.java"), place.resolve("Example.class"), place)) {
                Files.deleteIfExists(file);
            }
        }
        tables(readme);
        Check.finish("ReadmeTest");
    }

    private static String block(String readme, String kind) {
        int from = readme.indexOf("```" + kind + "\n") + kind.length() + 4;
        return readme.substring(from, readme.indexOf("```\n", from));
    }

    private static String printed(Path place, String program) throws Exception {
        Path source = place.resolve("Example.java");
        Files.writeString(source, program);
        int wrong = ToolProvider.getSystemJavaCompiler().run(null, null, null, "-Xlint:all", "-Werror",
                "-cp", System.getProperty("java.class.path"), "-d", place.toString(), source.toString());
        Check.due("the program does not compile", wrong, 0);
        if (wrong != 0) {
            return "";
        }
        try (URLClassLoader loader = new URLClassLoader(new URL[] {place.toUri().toURL()})) {
            return outputOf(loader.loadClass("Example").getMethod("main", String[].class));
        }
    }

    private static String outputOf(Method main) throws Exception {
        PrintStream before = System.out;
        ByteArrayOutputStream bytes = new ByteArrayOutputStream();
        System.setOut(new PrintStream(bytes, true, StandardCharsets.UTF_8));
        try {
            main.invoke(null, (Object) new String[0]);
        } finally {
            System.setOut(before);
        }
        return bytes.toString(StandardCharsets.UTF_8).replace("\r\n", "\n");
    }

    private static void tables(String readme) {
        List<String> calls = new ArrayList<>();
        List<Integer> promises = new ArrayList<>();
        for (String row : readme.split("\n")) {
            Matcher numbers = Pattern.compile("\\| .* \\(([-0-9, ]+)\\) \\| (`.*`) \\|").matcher(row);
            if (numbers.matches()) {
                addPromises(numbers.group(1), promises);
                calls.addAll(Arrays.asList(numbers.group(2).replace("`", "").split(" ")));
            }
        }
        Collections.sort(calls);
        List<String> wanted = new ArrayList<>();
        Caller.methodNames().forEach(wanted::add);
        Check.holds("each call once: " + calls, calls.equals(wanted));
        Collections.sort(promises);
        Check.due("promises told", promises.size(), PROMISES);
        for (int i = 0; i < promises.size(); i++) {
            Check.due("promise in its place", promises.get(i), i + 1);
        }
    }

    /** "6 - 8, 32": 6, 7, 8 and 32. */
    private static void addPromises(String told, List<Integer> promises) {
        for (String span : told.split(", ")) {
            String[] ends = span.split(" - ");
            for (int i = Integer.parseInt(ends[0]); i <= Integer.parseInt(ends[ends.length - 1]); i++) {
                promises.add(i);
            }
        }
    }
}
