import java.lang.reflect.Method;
import java.util.ArrayList;
import java.util.Comparator;
import java.util.List;
import java.util.Random;

/** Runs of drawn calls on the class and on the oracle: every answer must be the same. */
public final class OracleTest {
    private static final String[] WORDS = {"side", "tree", "tree", "tree", "wish", "wish", "move", "move", "fell"};
    private static final int[] EDGES = {-1, 0, 1, 2, 3, 4, 5, 6, 7, 8, 9, 10, 11, 12, 13, 24, 25, 40, 41, 63, 64,
        -2, -3, Integer.MAX_VALUE, Integer.MIN_VALUE};
    private final Random random;
    private final NineTrees x = new NineTrees();
    private final Oracle y = new Oracle();
    private final StringBuilder told = new StringBuilder();
    private final Checks checks;
    private int calls;

    private OracleTest(long seed, Checks checks) {
        this.random = new Random(seed);
        this.checks = checks;
    }

    public static void main(String[] args) throws Exception {
        int runs = args.length > 0 ? Integer.parseInt(args[0]) : 1500;
        Checks checks = new Checks("OracleTest");
        for (int run = 0; run < runs; run++) {
            OracleTest test = new OracleTest(7919L * run, checks);
            if (!test.run()) {
                System.out.println("run " + run + " was:" + test.told);
                break;
            }
        }
        checks.finish();
    }

    private boolean run() throws Exception {
        List<Method> methods = new ArrayList<>();
        for (Method m : NineTrees.class.getDeclaredMethods()) {
            if (java.lang.reflect.Modifier.isPublic(m.getModifiers())) {
                methods.add(m);
            }
        }
        methods.sort(Comparator.comparing(Method::getName));
        boolean good = true;
        if (random.nextInt(3) > 0) {
            good = same("side", 3 + random.nextInt(6)) && same("plant", 1 + random.nextInt(12));
        }
        while (good && calls < 512) {
            int kind = random.nextInt(40);
            if (kind == 0) {
                good = told(text()) && same("garden");
            } else if (kind == 1) {
                good = same("tree", random.nextInt(6), random.nextInt(64), random.nextInt(10));
            } else if (kind == 2) {
                good = same("wish", random.nextInt(4096));
            } else if (kind == 3) {
                good = toldRow();
            } else if (kind == 4) {
                good = same("show", random.nextInt(8), random.nextInt(12));
            } else if (kind == 5) {
                good = same("move", random.nextInt(12), random.nextInt(64));
            } else {
                good = drawn(methods.get(random.nextInt(methods.size())));
            }
        }
        return good;
    }

    private boolean drawn(Method method) throws Exception {
        Class<?>[] types = method.getParameterTypes();
        if (random.nextInt(4) > 0 && List.of("content", "garden", "back", "wipe").contains(method.getName())) {
            return true;
        }
        long[] args = new long[types.length];
        for (int i = 0; i < args.length; i++) {
            args[i] = types[i] == long.class && random.nextBoolean() ? random.nextLong() : number();
        }
        return same(method.getName(), args);
    }

    private long number() {
        int kind = random.nextInt(12);
        if (kind == 0) {
            return EDGES[random.nextInt(EDGES.length)];
        }
        if (kind == 1) {
            return random.nextInt(4096);
        }
        return kind < 4 ? random.nextInt(66) - 1 : random.nextInt(13);
    }

    private boolean toldRow() throws Exception {
        int s = random.nextInt(8);
        boolean good = same("row", s, random.nextInt(5), random.nextInt(10));
        for (int i = 0; i < 6 && good; i++) {
            good = same("set", s, i, random.nextInt(12));
        }
        return good && same("judge", s, random.nextInt(7));
    }

    private boolean told(String text) throws Exception {
        boolean good = same("wipe");
        for (int i = 0; i < text.length() && good; i++) {
            good = same("feed", text.charAt(i));
        }
        return good;
    }

    private String text() {
        StringBuilder text = new StringBuilder();
        int many = 1 + random.nextInt(5);
        for (int i = 0; i < many; i++) {
            if (i > 0) {
                text.append(random.nextInt(30) == 0 ? "" : random.nextBoolean() ? ";" : " ; ");
            }
            String word = WORDS[random.nextInt(WORDS.length)];
            text.append(word);
            int numbers = switch (word) {
                case "side" -> 1;
                case "tree" -> 3;
                case "wish" -> 3 + random.nextInt(3);
                case "move" -> 2;
                default -> 0;
            };
            for (int k = 0; k < numbers; k++) {
                int below = word.equals("tree") ? new int[] {6, 26, 10}[k] : word.equals("move") && k == 1 ? 26 : 8;
                text.append(k == 0 && random.nextBoolean() ? "" : " ");
                text.append(random.nextInt(12) == 0 ? "0" : "").append(random.nextInt(below));
            }
        }
        if (random.nextInt(4) == 0 && text.length() > 0) {
            int place = random.nextInt(text.length());
            text.setCharAt(place, "a;09 #\u00ffA".charAt(random.nextInt(8)));
        }
        if (random.nextInt(8) == 0) {
            text.setLength(random.nextInt(text.length() + 1));
        }
        if (random.nextInt(8) == 0) {
            text.insert(0, "  ").append("  ");
        }
        return text.toString();
    }

    private boolean same(String name, long... args) throws Exception {
        calls++;
        if (calls > 512) {
            return true;
        }
        told.append(' ').append(name).append(java.util.Arrays.toString(args));
        Method method = null;
        for (Method m : NineTrees.class.getMethods()) {
            if (m.getName().equals(name)) {
                method = m;
            }
        }
        Object[] values = new Object[args.length];
        for (int i = 0; i < args.length; i++) {
            if (method.getParameterTypes()[i] == long.class) {
                values[i] = args[i];
            } else {
                values[i] = (int) args[i];
            }
        }
        long got = ((Number) method.invoke(x, values)).longValue();
        long want = y.call(name, args);
        checks.due(name + java.util.Arrays.toString(args), got, want);
        return got == want;
    }
}
