import java.io.IOException;
import java.lang.reflect.InvocationTargetException;
import java.lang.reflect.Method;
import java.lang.reflect.Modifier;
import java.nio.file.Files;
import java.nio.file.Path;
import java.util.ArrayList;
import java.util.List;
import java.util.Set;
import java.util.TreeSet;
import java.util.regex.Matcher;
import java.util.regex.Pattern;
import java.util.stream.Collectors;
import java.util.stream.Stream;

/** What README.md says is so: its examples, and that it names each call, each class and each test. */
public final class ReadmeTest {
    private static final Pattern CALL = Pattern.compile("x\\.(\\w+)\\((.*)\\);\\s+// .*: (\\S+)");
    private static final Pattern FEED = Pattern.compile("feed\\(x, \"(.*)\"\\);\\s+// .*: (\\S+)");

    private ReadmeTest() {
    }

    public static void main(String[] args) throws IOException, IllegalAccessException {
        String readme = Files.readString(Path.of("README.md"));
        List<List<String>> blocks = javaBlocks(readme);
        is("README has the way to feed and two examples", blocks.size() == 3);
        String helper = String.join("\n", blocks.get(0)).replace("\n", "\n    ");
        is("README's feed is the one that the tests use", Files.readString(Path.of("src/test/java/Check.java")).contains(helper));
        List<String> lines = new ArrayList<>(blocks.get(1));
        lines.addAll(blocks.get(2));
        examples(lines);
        namesAllCalls(readme);
        namesAllClasses(readme);
        namesAllTests(readme);
        Check.close();
    }

    private static void is(String what, boolean holds) {
        Check.due(what, holds, true);
    }

    private static List<List<String>> javaBlocks(String readme) {
        List<List<String>> blocks = new ArrayList<>();
        List<String> open = null;
        for (String line : readme.split("\n")) {
            if (line.equals("```java")) {
                open = new ArrayList<>();
                blocks.add(open);
            } else if (line.equals("```")) {
                open = null;
            } else if (open != null) {
                open.add(line);
            }
        }
        return blocks;
    }

    private static void examples(List<String> lines) throws IllegalAccessException {
        CountRule x = null;
        for (String line : lines) {
            Matcher fed = FEED.matcher(line);
            Matcher called = CALL.matcher(line);
            if (line.equals("CountRule x = new CountRule();")) {
                x = new CountRule();
            } else if (fed.matches()) {
                Check.due(line, Check.feed(x, fed.group(1)), Integer.parseInt(fed.group(2)));
            } else {
                is("a line as this test reads it: " + line, called.matches());
                String got = answer(x, called.group(1), called.group(2));
                is(line + " (answered " + got + ")", got.equals(called.group(3)));
            }
        }
    }

    private static String answer(CountRule x, String name, String told) throws IllegalAccessException {
        String[] words = told.isEmpty() ? new String[0] : told.split(", ");
        for (Method method : CountRule.class.getMethods()) {
            if (method.getName().equals(name) && method.getParameterCount() == words.length) {
                Object[] arguments = new Object[words.length];
                for (int i = 0; i < words.length; i++) {
                    arguments[i] = Integer.valueOf(words[i]);
                }
                try {
                    return String.valueOf(method.invoke(x, arguments));
                } catch (InvocationTargetException e) {
                    return e.getCause().getClass().getSimpleName();
                }
            }
        }
        return "no such call";
    }

    private static void namesAllCalls(String readme) {
        int from = Math.max(0, readme.indexOf("### Calls"));
        int to = readme.indexOf("Children, elders", from);
        Set<String> named = new TreeSet<>();
        Matcher names = Pattern.compile("`(\\w+)`").matcher(readme.substring(from, Math.max(from, to)));
        while (names.find()) {
            is(names.group() + " once only", named.add(names.group(1)));
        }
        Set<String> face = new TreeSet<>();
        for (Method method : CountRule.class.getDeclaredMethods()) {
            if (Modifier.isPublic(method.getModifiers())) {
                face.add(method.getName());
            }
        }
        is("README's calls " + named + " are the face's " + face, named.equals(face));
    }

    private static void namesAllClasses(String readme) {
        int from = Math.max(0, readme.indexOf("## How it is built"));
        int to = Math.max(from, readme.indexOf("## Tests", from));
        Set<String> named = new TreeSet<>();
        Matcher names = Pattern.compile("`(\\w+)`").matcher(readme.substring(from, to));
        while (names.find()) {
            named.add(names.group(1));
        }
        Set<String> classes = Stream.of(CountRule.class.getDeclaredClasses()).map(Class::getSimpleName)
            .collect(Collectors.toCollection(TreeSet::new));
        classes.add("CountRule");
        is("README's classes " + named + " are those of the source " + classes, named.equals(classes));
    }

    private static void namesAllTests(String readme) throws IOException {
        Set<String> named = new TreeSet<>();
        Matcher names = Pattern.compile("`(\\w+Test)`").matcher(readme.substring(Math.max(0, readme.indexOf("## Tests"))));
        while (names.find()) {
            named.add(names.group(1));
        }
        Set<String> tests = new TreeSet<>();
        try (Stream<Path> files = Files.list(Path.of("src/test/java"))) {
            files.map(file -> file.getFileName().toString()).filter(name -> name.endsWith("Test.java"))
                .forEach(name -> tests.add(name.substring(0, name.length() - ".java".length())));
        }
        is("README's tests " + named + " are those that there are " + tests, named.equals(tests));
    }
}
