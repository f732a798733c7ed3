import java.io.File;
import java.lang.reflect.Method;
import java.lang.reflect.Modifier;
import java.nio.charset.StandardCharsets;
import java.nio.file.Files;
import java.nio.file.Path;
import java.util.List;
import java.util.TreeSet;
import java.util.regex.Matcher;
import java.util.regex.Pattern;

/** README.md tells calls and their answers: each is made here, on new objects. */
public final class ReadmeTest {
    private static final Due DUE = new Due();
    private static final Path README = Path.of(System.getProperty("heron.readme", "README.md"));
    private static final String NEW_OBJECT = "HeronTalk x = new HeronTalk();";
    /** x.name(numbers);  // answer, perhaps with words behind a colon. */
    private static final Pattern CALL = Pattern.compile("x\\.(\\w+)\\(([^)]*)\\); +// (-?\\w+)(: .+)?");
    private static final Pattern CONSTANT = Pattern.compile("`([A-Z]+)`[ |(]+(-\\d+)");

    public static void main(String[] args) throws Exception {
        List<String> lines = Files.readAllLines(README, StandardCharsets.UTF_8);
        calls(lines);
        constants(lines);
        tests(String.join("\n", lines));
        DUE.end();
    }

    private static void calls(List<String> lines) throws Exception {
        DUE.promise("README.md, how the class is used");
        TreeSet<String> unseen = face();
        HeronTalk x = null;
        boolean inside = false;
        for (int i = 0; i < lines.size(); i++) {
            String line = lines.get(i);
            if (line.startsWith("```")) {
                inside = line.equals("```java");
                x = null;
            } else if (inside && line.equals(NEW_OBJECT)) {
                x = new HeronTalk();
            } else if (inside) {
                String name = answerIsDue(x, i + 1, line);
                unseen.remove(name);
            }
        }
        DUE.is("calls that are not told: " + unseen, unseen.isEmpty());
    }

    private static TreeSet<String> face() {
        TreeSet<String> names = new TreeSet<>();
        for (Method m : HeronTalk.class.getDeclaredMethods()) {
            if (Modifier.isPublic(m.getModifiers())) {
                names.add(m.getName());
            }
        }
        return names;
    }

    /** Makes the call of a line: its name. */
    private static String answerIsDue(HeronTalk x, int number, String line) {
        Matcher call = CALL.matcher(line);
        boolean told = x != null && call.matches();
        DUE.is("line " + number + " tells a call and its answer: " + line, told);
        if (!told) {
            return "";
        }
        String[] words = call.group(2).isEmpty() ? new String[0] : call.group(2).split(", ");
        int[] args = new int[words.length];
        for (int i = 0; i < args.length; i++) {
            args[i] = Script.number(words[i].replace("HeronTalk.", ""));
        }
        DUE.is("line " + number + ", " + line, Script.call(x, call.group(1), args), Script.number(call.group(3)));
        return call.group(1);
    }

    private static void constants(List<String> lines) {
        DUE.promise("README.md, the constants");
        int found = 0;
        for (String line : lines) {
            Matcher constant = CONSTANT.matcher(line);
            if (constant.find()) {
                found++;
                DUE.is(line, Integer.parseInt(constant.group(2)), Script.number(constant.group(1)));
            }
        }
        DUE.is("all eight", found, 8);
    }

    private static void tests(String text) {
        DUE.promise("README.md, how the tests are run");
        DUE.is("by .ci/run", text.contains("\n    .ci/run\n"));
        File[] files = README.toAbsolutePath().getParent().resolve("src/test/java").toFile().listFiles();
        DUE.is("there are tests", files != null && files.length > 0);
        for (File file : files == null ? new File[0] : files) {
            String name = file.getName().replace(".java", "");
            if (name.endsWith("Test")) {
                DUE.is(name + " is told", text.contains("`" + name + "`"));
            }
        }
    }
}
