import java.io.IOException;
import java.lang.reflect.Method;
import java.nio.file.Files;
import java.nio.file.Path;
import java.util.Set;
import java.util.TreeSet;
import java.util.regex.Matcher;
import java.util.regex.Pattern;

/** README.md names every call as the document's face does, and its example answers what it says there. */
public final class ReadmeTest {
    private static final Pattern EXAMPLE_LINE = Pattern.compile("nets\\.(\\w+)\\(([-0-9, ]*)\\); +// (-?\\d+): .+");
    private static final Pattern FACE_LINE = Pattern.compile("public ((?:int|long) \\w+\\([^)]*\\));");
    private static final int CALLS = 19;

    public static void main(String[] args) throws ReflectiveOperationException, IOException {
        String readme = Files.readString(Path.of("README.md"));
        names(readme, Files.readString(Path.of("../shared/DOC.md")));
        example(javaBlock(readme));
        Due.end();
    }

    private static void names(String readme, String document) {
        Matcher face = FACE_LINE.matcher(javaBlock(document));
        int calls = 0;
        while (face.find()) {
            calls++;
            Due.holds("README.md has a row for " + face.group(1), readme.contains("\n| `" + face.group(1) + "` |"));
        }
        Due.due("calls of the document's face", calls, CALLS);
        String[] constants = {"BAD` (" + OhmNets.BAD, "STATE` (" + OhmNets.STATE, "FULL` (" + OhmNets.FULL,
            "NONE` (" + OhmNets.NONE};
        for (String constant : constants) {
            Due.holds("README.md says `" + constant + ")", readme.contains("`" + constant + ")"));
        }
        Due.holds("README.md says how to run the tests", readme.contains("\n    .ci/run\n"));
    }

    private static void example(String block) throws ReflectiveOperationException {
        OhmNets nets = new OhmNets();
        Set<String> used = new TreeSet<>();
        for (String line : block.split("\n")) {
            if (line.isBlank() || line.equals("OhmNets nets = new OhmNets();")) {
                continue;
            }
            Matcher call = EXAMPLE_LINE.matcher(line);
            Due.holds("README.md's example can be read: " + line, call.matches());
            if (call.matches()) {
                used.add(call.group(1));
                Due.due("README.md: " + line, answerOf(nets, call.group(1), call.group(2)), Long.parseLong(call.group(3)));
            }
        }
        Due.due("calls that README.md's example uses, " + used, used.size(), CALLS);
    }

    private static long answerOf(OhmNets nets, String name, String numbers) throws ReflectiveOperationException {
        String[] texts = numbers.isEmpty() ? new String[0] : numbers.split(", ");
        Object[] arguments = new Object[texts.length];
        for (int i = 0; i < texts.length; i++) {
            arguments[i] = Integer.valueOf(texts[i]);
        }
        for (Method method : OhmNets.class.getMethods()) {
            if (method.getName().equals(name)) {
                return ((Number) method.invoke(nets, arguments)).longValue();
            }
        }
        throw new IllegalStateException("there is no call " + name);
    }

    /** What stands in the first block of Java. */
    private static String javaBlock(String text) {
        int start = text.indexOf("```java\n");
        int end = text.indexOf("```", start + 8);
        return start < 0 || end < 0 ? "" : text.substring(start + 8, end);
    }
}
