import java.io.PrintWriter;
import java.io.StringWriter;
import java.lang.reflect.Constructor;
import java.lang.reflect.Executable;
import java.lang.reflect.Field;
import java.lang.reflect.Method;
import java.lang.reflect.Modifier;
import java.nio.file.Files;
import java.nio.file.Path;
import java.util.ArrayList;
import java.util.HashMap;
import java.util.List;
import java.util.Map;
import java.util.Set;
import java.util.TreeSet;
import java.util.regex.Matcher;
import java.util.regex.Pattern;
import java.util.spi.ToolProvider;
import java.util.stream.Collectors;

/** The rules of LANGUAGE.md that can be looked at from outside: face, words, library, sizes, depths. */
public final class LanguageTest {
    private static final Checks CHECKS = new Checks("LanguageTest");
    private static final String FACE = """
        int row(int,int,int)
        int set(int,int,long)
        int copy(int,int,int,int,int)
        long element(int,int)
        int holds(int)
        int show(int,int)
        int says(int,int)
        int side(int)
        int tree(int,int,int)
        int wish(int)
        int content()
        int move(int,int)
        int fell()
        int feed(int)
        int wipe()
        int garden()
        int treeOf(int,int)
        int treeAt(int)
        int many(int)
        int threes()
        int rowAt(int,int)
        int longest()
        int alone()
        int through(int,int)
        int inLine(int)
        int judge(int,int)
        int gap(int)
        int missed(int)
        int least()
        int best(int)
        int moved(int,int)
        long may()
        int most(int)
        int view(int)
        long overlooks()
        int behind(int,int)
        int paths(int)
        int wishOf(int)
        int met(int)
        int bestFor(int)
        int alike()
        int middle()
        int nearest()
        int largest()
        int squares()
        int corners()
        int pointed(int)
        int turn()
        int mirror()
        int improve()
        int plant(int)
        int seed(int)
        int image()
        int back()
        int status(int)
        """;
    private static final Set<String> LIBRARY = Set.of("java/lang/Object.\"<init>\"", "java/lang/Integer.bitCount",
        "java/lang/Integer.numberOfTrailingZeros", "java/lang/Math.abs", "java/lang/Math.max", "java/lang/Math.min",
        "java/lang/String.length", "java/lang/String.charAt", "java/lang/System.arraycopy");

    public static void main(String[] args) throws Exception {
        face();
        members();
        words(Files.readString(Path.of(System.getProperty("source"))));
        calls();
        CHECKS.finish();
    }

    private static void face() throws Exception {
        Set<String> want = new TreeSet<>(FACE.lines().map(String::strip).toList());
        Set<String> got = new TreeSet<>();
        for (Method m : NineTrees.class.getDeclaredMethods()) {
            if (!Modifier.isPrivate(m.getModifiers())) {
                CHECKS.holds(m + " is public, and not static", m.getModifiers() == Modifier.PUBLIC);
                got.add(m.getReturnType() + " " + m.getName() + List.of(m.getParameterTypes()).stream()
                    .map(Class::getName).collect(Collectors.joining(",", "(", ")")));
            }
        }
        CHECKS.holds("the methods are " + want + ", not " + got, want.equals(got));
        CHECKS.holds("55 methods are in the face", got.size() == 55);
        CHECKS.holds("the class is public and final",
            NineTrees.class.getModifiers() == (Modifier.PUBLIC | Modifier.FINAL));
        Constructor<?>[] constructors = NineTrees.class.getDeclaredConstructors();
        CHECKS.holds("there is one public constructor without parameters", constructors.length == 1
            && constructors[0].getParameterCount() == 0 && constructors[0].getModifiers() == Modifier.PUBLIC);
        for (Field f : NineTrees.class.getDeclaredFields()) {
            CHECKS.holds(f + " is private, but for NONE",
                Modifier.isPrivate(f.getModifiers()) || f.getName().equals("NONE"));
        }
        int constant = Modifier.PUBLIC | Modifier.STATIC | Modifier.FINAL;
        CHECKS.holds("NONE is a constant", NineTrees.class.getField("NONE").getModifiers() == constant);
        CHECKS.due("NONE", NineTrees.NONE, -1);
    }

    private static List<Class<?>> classes() {
        List<Class<?>> all = new ArrayList<>(List.of(NineTrees.class.getDeclaredClasses()));
        all.add(NineTrees.class);
        return all;
    }

    private static void members() {
        Set<String> face = new TreeSet<>();
        for (Method m : NineTrees.class.getMethods()) {
            face.add(m.getName());
        }
        CHECKS.holds("there are twelve classes at most", classes().size() <= 12);
        for (Class<?> c : classes()) {
            CHECKS.holds(c + " is static, or the class itself", c == NineTrees.class || Modifier.isStatic(c.getModifiers()));
            CHECKS.holds(c + " has no classes inside", c == NineTrees.class || c.getDeclaredClasses().length == 0);
            int fields = 0;
            for (Field f : c.getDeclaredFields()) {
                boolean isStatic = Modifier.isStatic(f.getModifiers());
                fields += isStatic ? 0 : 1;
                CHECKS.holds(f + " is final if it is static", !isStatic || Modifier.isFinal(f.getModifiers()));
                CHECKS.holds(f + " is a constant if it is static", !isStatic || f.getType() == int.class);
            }
            CHECKS.holds(c + " has twenty fields at most", fields <= 20);
            for (Method m : c.getDeclaredMethods()) {
                parameters(m);
                CHECKS.holds(m + " does not bear the name of a public one",
                    c == NineTrees.class && Modifier.isPublic(m.getModifiers()) || !face.contains(m.getName()));
            }
        }
    }

    private static void parameters(Executable m) {
        CHECKS.holds(m + " has seven parameters at most", m.getParameterCount() <= 7);
    }

    private static void words(String source) {
        String bare = source.replaceAll("(?s)/\\*.*?\\*/", "").replaceAll("//[^\n]*", "").replaceAll("\"[^\"\n]*\"", "\"\"");
        String[] forbidden = {"throw", "throws", "try", "catch", "finally", "synchronized", "assert", "import", "package",
            "native", "volatile", "transient", "protected", "double", "float"};
        for (String word : forbidden) {
            CHECKS.holds("'" + word + "' does not stand in the source", !Pattern.compile("\\b" + word + "\\b").matcher(bare).find());
        }
        CHECKS.holds("no lambda, no method reference", !bare.contains("->") && !bare.contains("::"));
        CHECKS.holds("the source is plain ASCII", source.chars().allMatch(c -> c == 10 || c >= 32 && c < 127));
        int start = 0;
        String[] lines = source.split("\n");
        for (int i = 0; i < lines.length; i++) {
            CHECKS.holds("line " + (i + 1) + " is not too long", lines[i].length() <= 120);
            if (lines[i].matches("( {4}| {8})[^ /*].*\\) \\{")) {
                start = i;
            }
            if (lines[i].matches("( {4}| {8})\\}")) {
                CHECKS.holds("the method at line " + (start + 1) + " is short", i - start <= 45 || lines[start].contains("class"));
            }
        }
    }

    /** Who calls whom, as the compiled classes tell. */
    private static void calls() {
        Map<String, Set<String>> graph = new HashMap<>();
        for (Class<?> c : classes()) {
            StringWriter text = new StringWriter();
            PrintWriter out = new PrintWriter(text);
            ToolProvider.findFirst("javap").orElseThrow().run(out, out, "-p", "-c", "-cp", System.getProperty("classes"), c.getName());
            String method = "";
            for (String line : text.toString().split("\n")) {
                Matcher head = Pattern.compile("^  [^ ].*?([\\w$]+)\\(.*\\).*;$").matcher(line);
                Matcher call = Pattern.compile("// (?:Interface)?Method (?:([\\w/$]+)\\.)?(\"<init>\"|\\w+):").matcher(line);
                if (head.matches()) {
                    String name = head.group(1).equals(c.getName()) ? "\"<init>\"" : head.group(1);
                    method = c.getName() + "." + name;
                    graph.putIfAbsent(method, new TreeSet<>());
                } else if (call.find()) {
                    String owner = call.group(1) == null ? c.getName() : call.group(1);
                    graph.get(method).add(owner + "." + call.group(2));
                }
                CHECKS.holds("nothing is thrown or called dynamically: " + line,
                    !line.matches(".*: (athrow|invokedynamic|monitorenter|d\\w+|f\\w+div|frem).*") || line.contains(": dup"));
            }
        }
        CHECKS.holds("the calls could be read", graph.size() > 100 && graph.containsKey("NineTrees.row"));
        for (Map.Entry<String, Set<String>> e : graph.entrySet()) {
            for (String callee : e.getValue()) {
                CHECKS.holds(e.getKey() + " calls " + callee + ", its own or the library's",
                    graph.containsKey(callee) || LIBRARY.contains(callee));
            }
        }
        for (String method : graph.keySet()) {
            int depth = depth(graph, method, 0);
            CHECKS.holds(method + " goes eight calls deep at most, not " + depth, depth <= 8);
        }
    }

    private static int depth(Map<String, Set<String>> graph, String method, int above) {
        int deepest = 0;
        for (String callee : graph.getOrDefault(method, Set.of())) {
            if (above < 40 && graph.containsKey(callee)) {
                deepest = Math.max(deepest, depth(graph, callee, above + 1));
            }
        }
        return 1 + deepest;
    }
}
