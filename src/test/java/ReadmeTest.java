import java.io.File;
import java.io.IOException;
import java.net.URL;
import java.net.URLClassLoader;
import java.nio.file.Files;
import java.nio.file.Path;
import java.util.ArrayList;
import java.util.Arrays;
import java.util.Comparator;
import java.util.List;
import java.util.Set;
import java.util.TreeSet;
import java.util.regex.Matcher;
import java.util.regex.Pattern;
import java.util.stream.Stream;
import javax.tools.ToolProvider;

/** README.md says what is so: its example compiles and answers as it says, its table has the tests that there are. */
public final class ReadmeTest {
    private static final Pattern EXAMPLE = Pattern.compile("```java\n(.*?)```", Pattern.DOTALL);
    private static final Pattern ANSWERED = Pattern.compile("(x\\..*);\\s+// (-?\\d+|NONE|BAD|NOT|FULL)(: .*)?");
    private static final Pattern ROW = Pattern.compile("(?m)^\\| (`.*`) \\|");
    private static final Pattern NAME = Pattern.compile("`(\\w+)`");

    public static void main(String[] args) throws Exception {
        String readme = Files.readString(Path.of("README.md"));
        exampleAnswersAsItSays(readme);
        tableHasTheTestsThatThereAre(readme);
        supportIsNamed(readme);
        Due.finish();
    }

    private static void exampleAnswersAsItSays(String readme) throws Exception {
        Matcher example = EXAMPLE.matcher(readme);
        Due.due("README: an example", example.find() ? 1 : 0, 1);
        List<String> calls = new ArrayList<>();
        List<Long> told = new ArrayList<>();
        StringBuilder body = new StringBuilder();
        for (String line : example.group(1).split("\n")) {
            Matcher answered = ANSWERED.matcher(line);
            if (answered.matches()) {
                body.append("answers[").append(calls.size()).append("] = ").append(answered.group(1)).append(";\n");
                calls.add(answered.group(1));
                told.add(numberOf(answered.group(2)));
            } else {
                body.append(line).append("\n");
            }
        }
        Due.due("README: the example has answers", calls.size() >= 10 ? 1 : 0, 1);
        long[] answers = answersOf(body.toString(), calls.size());
        for (int i = 0; i < answers.length; i++) {
            Due.due("README: " + calls.get(i), answers[i], told.get(i));
        }
    }

    private static long numberOf(String told) {
        return switch (told) {
            case "NONE" -> TermLodgings.NONE;
            case "BAD" -> TermLodgings.BAD;
            case "NOT" -> TermLodgings.NOT;
            case "FULL" -> TermLodgings.FULL;
            default -> Long.parseLong(told);
        };
    }

    private static long[] answersOf(String body, int many) throws Exception {
        Path place = Files.createTempDirectory("readme");
        try {
            Path source = place.resolve("Example.java");
            Files.writeString(source, "public final class Example {\npublic static long[] answers() {\n"
                + "long[] answers = new long[" + many + "];\n" + body + "return answers;\n}\n}\n");
            String classes = System.getProperty("java.class.path");
            int refused = ToolProvider.getSystemJavaCompiler()
                .run(null, null, null, "--release", "17", "-cp", classes, "-d", place.toString(), source.toString());
            Due.due("README: whether the example is refused by javac", refused, 0);
            try (URLClassLoader loader = new URLClassLoader(new URL[] {place.toUri().toURL()})) {
                return (long[]) loader.loadClass("Example").getMethod("answers").invoke(null);
            }
        } finally {
            remove(place);
        }
    }

    private static void remove(Path place) throws IOException {
        try (Stream<Path> files = Files.walk(place)) {
            files.sorted(Comparator.reverseOrder()).map(Path::toFile).forEach(File::delete);
        }
    }

    private static Set<String> filesOf(String folder) {
        Set<String> names = new TreeSet<>();
        for (File file : new File(folder).listFiles()) {
            names.add(file.getName().replace(".java", ""));
        }
        return names;
    }

    private static void tableHasTheTestsThatThereAre(String readme) {
        Set<String> named = new TreeSet<>();
        Matcher row = ROW.matcher(readme);
        while (row.find()) {
            NAME.matcher(row.group(1)).results().forEach(name -> named.add(name.group(1)));
        }
        Set<String> there = filesOf("src/test/java");
        Due.due("README: the tests " + named + " are " + there, named.equals(there) ? 1 : 0, 1);
    }

    private static void supportIsNamed(String readme) {
        for (String name : filesOf("src/test/support")) {
            Due.due("README: " + name + " is named", readme.contains("`" + name + "`") ? 1 : 0, 1);
        }
        for (String path : Arrays.asList(".ci/run", "src/main/java/TermLodgings.java", "src/test/support")) {
            boolean named = readme.contains(path) && new File(path).exists();
            Due.due("README: " + path + " is there", named ? 1 : 0, 1);
        }
        Due.due("README: .ci/run can be run", new File(".ci/run").canExecute() ? 1 : 0, 1);
    }
}
