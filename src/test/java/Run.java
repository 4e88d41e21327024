import java.lang.reflect.InvocationTargetException;
import java.lang.reflect.Method;
import java.util.ArrayList;
import java.util.Arrays;
import java.util.HashMap;
import java.util.List;
import java.util.Map;
import java.util.regex.Matcher;
import java.util.regex.Pattern;

/**
 * One object and the calls on it, told as text: "side(3) 2*feed(32) 'tree 0 0 0' garden()"; what stands in
 * quotes is fed byte by byte. MIN and MAX are the least and the greatest int, LMIN and LMAX those of the longs.
 */
final class Run {
    private static final int MOST_CALLS = 512;
    private static final Pattern CALL = Pattern.compile("(?:(\\d+)\\*)?(\\w+)\\(([^)]*)\\)|'([^']*)'|\\s+|([\\s\\S])");
    private static final Map<String, Method> FACE = new HashMap<>();
    private static final Map<String, Long> NUMBERS = Map.of("MIN", (long) Integer.MIN_VALUE, "MAX", (long) Integer.MAX_VALUE,
        "LMIN", Long.MIN_VALUE, "LMAX", Long.MAX_VALUE, "NONE", -1L);

    static {
        for (Method m : NineTrees.class.getDeclaredMethods()) {
            FACE.put(m.getName(), m);
        }
    }

    private final NineTrees x = new NineTrees();
    private int calls;

    /** Of the calls by which it is set up none may be refused. */
    Run(String setup) {
        make(setup);
        if (Arrays.stream(refusals()).sum() != 0) {
            throw new IllegalStateException("refused in " + setup);
        }
    }

    private void make(String told) {
        Matcher m = CALL.matcher(told);
        while (m.find()) {
            if (m.group(5) != null) {
                throw new IllegalStateException("no call: " + told);
            }
            int times = m.group(1) == null ? 1 : Integer.parseInt(m.group(1));
            for (int i = 0; m.group(2) != null && i < times; i++) {
                call(m.group(2), m.group(3));
            }
            for (int i = 0; m.group(4) != null && i < m.group(4).length(); i++) {
                call("feed", Integer.toString(m.group(4).charAt(i)));
            }
        }
    }

    long call(String told) {
        Matcher m = CALL.matcher(told);
        if (!m.matches() || m.group(2) == null) {
            throw new IllegalStateException("no call: " + told);
        }
        return call(m.group(2), m.group(3));
    }

    private long call(String name, String told) {
        calls++;
        if (calls > MOST_CALLS) {
            throw new IllegalStateException("more calls than are promised");
        }
        String[] words = told.isBlank() ? new String[0] : told.split(",");
        Method method = FACE.get(name);
        Object[] values = new Object[words.length];
        for (int i = 0; i < words.length; i++) {
            String word = words[i].strip();
            long value = NUMBERS.containsKey(word) ? NUMBERS.get(word) : Long.decode(word);
            boolean isLong = method.getParameterTypes()[i] == long.class;
            values[i] = isLong ? (Object) value : (Object) Math.toIntExact(value);
        }
        try {
            return ((Number) method.invoke(x, values)).longValue();
        } catch (IllegalAccessException | InvocationTargetException e) {
            throw new IllegalStateException(name + "(" + told + ")", e);
        }
    }

    /** How many there were of -2 to -6. */
    long[] refusals() {
        long[] all = new long[5];
        for (int i = 0; i < all.length; i++) {
            all[i] = call("status(" + (12 + i) + ")");
        }
        return all;
    }

    /** All that can be told of the object but its refusals; the tape's bytes and what was kept are used up by it. */
    List<Long> picture() {
        List<Long> all = new ArrayList<>();
        addGround(all);
        for (int s = 0; s < 8; s++) {
            addShelf(all, s);
        }
        all.add(call("garden()"));
        addGround(all);
        all.add(call("back()"));
        addGround(all);
        return all;
    }

    private void addGround(List<Long> all) {
        for (int what = 0; what < 10; what++) {
            all.add(call("status(" + what + ")"));
        }
        long trees = call("status(1)");
        for (int t = 0; t < trees; t++) {
            for (int what = 0; what < 3; what++) {
                all.add(call("treeOf(" + t + "," + what + ")"));
            }
        }
        long wishes = call("status(5)");
        for (int i = 0; i < wishes; i++) {
            all.add(call("wishOf(" + i + ")"));
        }
    }

    private void addShelf(List<Long> all, int s) {
        long held = call("holds(" + s + ")");
        all.add(held);
        if (held < 0 || held > 4) {
            return;
        }
        int size = sizeOf(s);
        all.add((long) size);
        for (int i = 0; i < size; i++) {
            all.add(call("element(" + s + "," + i + ")"));
        }
    }

    /** A copy of no elements from a place is refused beyond the last one alone. */
    private int sizeOf(int s) {
        int least = 0;
        int beyond = 41;
        while (beyond - least > 1) {
            int half = (least + beyond) / 2;
            if (call("copy(" + s + "," + s + "," + half + ",0,0)") == 0) {
                least = half;
            } else {
                beyond = half;
            }
        }
        return least;
    }
}
