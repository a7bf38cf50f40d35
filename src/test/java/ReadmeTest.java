import java.io.IOException;
import java.lang.reflect.Method;
import java.lang.reflect.Modifier;
import java.nio.file.DirectoryStream;
import java.nio.file.Files;
import java.nio.file.Path;
import java.util.Arrays;
import java.util.Set;
import java.util.TreeSet;
import java.util.regex.Matcher;
import java.util.regex.Pattern;

// README.md's example is run line by line and must answer what its comments say; it must show every
// method of the class, and the page must name .ci/run and every test of the project.
public final class ReadmeTest {
    private static final Pattern EXAMPLE = Pattern.compile("```java\n(.*?)```", Pattern.DOTALL);
    private static final Pattern MADE = Pattern.compile("IncrementalScc graph = new IncrementalScc\\((\\d+)\\);.*");
    private static final Pattern CALLED = Pattern.compile("graph\\.(\\w+)\\(([-\\d, ]*)\\); +// ([\\w.-]+).*");

    private static int wrong = 0;

    public static void main(String[] args) throws IOException, ReflectiveOperationException {
        String page = Files.readString(Path.of("README.md"));
        Matcher example = EXAMPLE.matcher(page);
        due("README.md has an example", example.find());
        if (wrong == 0) {
            runExample(example.group(1).split("\n"));
        }
        due("README.md says how to run the tests", page.contains(".ci/run"));
        try (DirectoryStream<Path> tests = Files.newDirectoryStream(Path.of("src/test/java"), "*.java")) {
            for (Path test : tests) {
                due("README.md names " + test, page.contains("`" + test + "`"));
            }
        }
        System.out.println(wrong == 0 ? "README.md is as due" : wrong + " things are not as due");
        if (wrong != 0) {
            System.exit(1);
        }
    }

    private static void due(String what, boolean holds) {
        if (!holds) {
            wrong++;
            System.out.println("not so: " + what);
        }
    }

    private static void runExample(String[] lines) throws ReflectiveOperationException {
        Set<String> shown = new TreeSet<>();
        IncrementalScc graph = null;
        for (String line : lines) {
            Matcher made = MADE.matcher(line);
            Matcher called = CALLED.matcher(line);
            if (made.matches()) {
                graph = new IncrementalScc(Integer.parseInt(made.group(1)));
            } else if (graph != null && called.matches()) {
                shown.add(called.group(1));
                String got = call(graph, called.group(1), called.group(2));
                due(line + " (answered " + got + ")", got.equals(meant(called.group(3))));
            } else {
                due("the example's line can be run: " + line, false);
            }
        }
        due("the example shows " + publicMethods() + ", shown are " + shown, shown.equals(publicMethods()));
    }

    private static String call(IncrementalScc graph, String name, String arguments) throws ReflectiveOperationException {
        Object[] numbers = Arrays.stream(arguments.split(", *"))
            .filter(word -> !word.isEmpty()).map(Integer::valueOf).toArray();
        Class<?>[] types = new Class<?>[numbers.length];
        Arrays.fill(types, int.class);
        return IncrementalScc.class.getMethod(name, types).invoke(graph, numbers).toString();
    }

    // The constants' values are those of the document, not those of the class.
    private static String meant(String answer) {
        return switch (answer) {
            case "IncrementalScc.BAD" -> "-1";
            case "IncrementalScc.NONE" -> "-2";
            default -> answer;
        };
    }

    private static Set<String> publicMethods() {
        Set<String> names = new TreeSet<>();
        for (Method method : IncrementalScc.class.getDeclaredMethods()) {
            if (Modifier.isPublic(method.getModifiers())) {
                names.add(method.getName());
            }
        }
        return names;
    }
}
