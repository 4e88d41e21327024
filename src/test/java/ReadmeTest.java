import java.lang.reflect.Method;
import java.lang.reflect.Modifier;
import java.nio.file.Files;
import java.nio.file.Path;
import java.util.HashMap;
import java.util.List;
import java.util.Map;
import java.util.TreeSet;
import java.util.regex.Matcher;
import java.util.regex.Pattern;

/** What README.md says: the answers in its examples, its list of all calls, and the files that it names. */
public final class ReadmeTest {
    private static final Checks CHECKS = new Checks("ReadmeTest");
    private static final Pattern BLOCK = Pattern.compile("```java\n(.*?)```", Pattern.DOTALL);
    private static final Pattern MAKING = Pattern.compile("NineTrees (\\w+) = new NineTrees\\(\\);");
    private static final Pattern TEXT = Pattern.compile("String text = \"(.*)\";");
    private static final Pattern FEEDING = Pattern.compile("    (\\w+)\\.feed\\(text\\.charAt\\(i\\)\\);");
    private static final Pattern CALL = Pattern.compile("(\\w+)\\.(\\w+\\(.*?\\)); +// (-?\\d+)(:.*)?");
    private static final Pattern LISTED = Pattern.compile("(?m)^\\| `(\\w+)\\((.*?)\\)` \\|");
    private static final List<String> AROUND_FEEDING = List.of("for (int i = 0; i < text.length(); i++) {", "}");

    private final Map<String, Run> objects = new HashMap<>();
    private String text = "";
    private int answers;

    public static void main(String[] args) throws Exception {
        Path root = Path.of(System.getProperty("source")).toAbsolutePath().getParent().resolve("../../..").normalize();
        String readme = Files.readString(root.resolve("README.md"));
        new ReadmeTest().examplesAnswer(readme);
        everyCallIsListed(readme);
        filesAreThere(root, readme);
        CHECKS.finish();
    }

    private void examplesAnswer(String readme) {
        Matcher block = BLOCK.matcher(readme);
        while (block.find()) {
            block.group(1).lines().forEach(this::follow);
        }
        CHECKS.holds("examples tell answers, not " + answers, answers >= 20);
    }

    private void follow(String line) {
        Matcher making = MAKING.matcher(line);
        Matcher told = TEXT.matcher(line);
        Matcher feeding = FEEDING.matcher(line);
        Matcher call = CALL.matcher(line);
        if (making.matches()) {
            objects.put(making.group(1), new Run(""));
        } else if (told.matches()) {
            text = told.group(1);
        } else if (feeding.matches()) {
            text.chars().forEach(letter -> objects.get(feeding.group(1)).call("feed(" + letter + ")"));
        } else if (call.matches()) {
            answers++;
            CHECKS.due(line, objects.get(call.group(1)).call(plain(call.group(2))), Long.parseLong(call.group(3)));
        } else {
            CHECKS.holds("this line can be followed: " + line, AROUND_FEEDING.contains(line));
        }
    }

    /** Letters by their numbers, the constant by its name alone. */
    private static String plain(String call) {
        Matcher letter = Pattern.compile("'(.)'").matcher(call.replace("NineTrees.NONE", "NONE"));
        return letter.replaceAll(found -> Integer.toString(found.group(1).charAt(0)));
    }

    private static void everyCallIsListed(String readme) {
        TreeSet<String> listed = new TreeSet<>();
        Matcher m = LISTED.matcher(readme);
        while (m.find()) {
            int parameters = m.group(2).isEmpty() ? 0 : m.group(2).split(",").length;
            CHECKS.holds(m.group(1) + " is listed once", listed.add(m.group(1) + " " + parameters));
        }
        TreeSet<String> face = new TreeSet<>();
        for (Method method : NineTrees.class.getDeclaredMethods()) {
            if (Modifier.isPublic(method.getModifiers())) {
                face.add(method.getName() + " " + method.getParameterCount());
            }
        }
        CHECKS.holds("all calls are listed, and no others: " + listed, listed.equals(face));
    }

    private static void filesAreThere(Path root, String readme) {
        for (String file : List.of(".ci/run", "NOTES.md", "src/main/java/NineTrees.java", "src/test/java/TapeTest.java",
                "src/test/java/OracleTest.java", "../shared/DOC.md", "../shared/LANGUAGE.md", "../shared/tests")) {
            String name = file.startsWith("src/test") ? file.replaceAll(".*/|\\.java", "") : file;
            CHECKS.holds("README.md names " + name, readme.contains(name));
            CHECKS.holds(file + " is there", Files.exists(root.resolve(file)));
        }
        CHECKS.holds(".ci/run can be run", Files.isExecutable(root.resolve(".ci/run")));
    }
}
