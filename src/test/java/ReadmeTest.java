import java.io.IOException;
import java.lang.reflect.Method;
import java.lang.reflect.Modifier;
import java.nio.file.Files;
import java.nio.file.Path;
import java.util.ArrayList;
import java.util.List;
import java.util.regex.Matcher;
import java.util.regex.Pattern;
import java.util.stream.Stream;

/** What README.md shows is so: each call of its examples answers as the comment behind it says; no call, no test is left out. */
public final class ReadmeTest {
    private static final Pattern CALL = Pattern.compile("x\\.(\\w+)\\((.*?)\\);\\s+// (true|false|-?\\d+)(:.*|;.*)?");

    public static void main(String[] args) throws Exception {
        String readme = Files.readString(Path.of("README.md"));
        examples(readme);
        everyCall(readme);
        everyTest(readme);
        Due.end("ReadmeTest");
    }

    private static void examples(String readme) throws Exception {
        Matcher block = Pattern.compile("(?s)```java\n(.*?)```").matcher(readme);
        int calls = 0;
        while (block.find()) {
            AheadStore x = null;
            for (String line : block.group(1).split("\n")) {
                Matcher call = CALL.matcher(line);
                if (line.equals("AheadStore x = new AheadStore();")) {
                    x = new AheadStore();
                } else if (!line.isBlank()) {
                    Due.yes("a call with its answer: " + line, call.matches() && x != null);
                    if (call.matches() && x != null) {
                        Due.is(line, answer(x, call.group(1), call.group(2)), number(call.group(3)));
                        calls++;
                    }
                }
            }
        }
        Due.yes("there are examples, not " + calls, calls > 20);
    }

    private static int number(String word) {
        return word.equals("true") ? 1 : word.equals("false") ? 0 : Integer.decode(word);
    }

    private static int answer(AheadStore x, String name, String told) throws Exception {
        List<Object> values = new ArrayList<>();
        for (String one : told.isBlank() ? new String[0] : told.split(",\\s*")) {
            boolean flag = one.equals("true") || one.equals("false");
            values.add(flag ? (Object) one.equals("true") : (Object) Integer.decode(one));
        }
        for (Method m : AheadStore.class.getMethods()) {
            if (m.getName().equals(name) && m.getParameterCount() == values.size()) {
                Object got = m.invoke(x, values.toArray());
                return got instanceof Boolean ? ((Boolean) got ? 1 : 0) : (Integer) got;
            }
        }
        return Integer.MIN_VALUE;
    }

    private static void everyCall(String readme) {
        for (Method m : AheadStore.class.getDeclaredMethods()) {
            if (Modifier.isPublic(m.getModifiers())) {
                Due.yes("README.md tells of " + m.getName(), readme.contains("| `" + m.getName() + "("));
            }
        }
    }

    private static void everyTest(String readme) throws IOException {
        try (Stream<Path> files = Files.list(Path.of("src/test/java"))) {
            for (Path file : (Iterable<Path>) files::iterator) {
                String name = file.getFileName().toString().replace(".java", "");
                Due.yes("README.md tells of " + name, readme.contains("`" + name + "`"));
            }
        }
    }
}
