import java.util.ArrayList;
import java.util.Arrays;
import java.util.HashMap;
import java.util.HashSet;
import java.util.List;
import java.util.Map;
import java.util.Set;
import java.util.TreeMap;
import java.util.TreeSet;
import java.util.regex.Matcher;
import java.util.regex.Pattern;

/**
 * The document once more, by other ways than the class takes: rows are grouped by the equations of
 * their lines, moves are made on copies, the sight is walked step by step, corners come from a hull.
 */
final class Oracle {
    private static final int BAD = -2;
    private static final int OTHER = -3;
    private static final int NOTHING = -4;
    private static final int STUCK = -5;
    private static final int FULL = -6;
    private static final Map<Integer, Integer> MOST = new HashMap<>();

    record Tree(int kind, int cell, int a) { }

    static final class State {
        int side = 5;
        int seed = 1;
        List<Tree> trees = new ArrayList<>();
        List<Integer> wishes = new ArrayList<>();

        State copy() {
            State other = new State();
            other.side = side;
            other.seed = seed;
            other.trees = new ArrayList<>(trees);
            other.wishes = new ArrayList<>(wishes);
            return other;
        }

        int r(int cell) {
            return cell / side;
        }

        int c(int cell) {
            return cell % side;
        }

        int apart(int p, int q) {
            return Math.abs(r(p) - r(q)) + Math.abs(c(p) - c(q));
        }

        int at(int cell) {
            for (int t = 0; t < trees.size(); t++) {
                if (trees.get(t).cell == cell) {
                    return t;
                }
            }
            return -1;
        }

        boolean isCherry(int t) {
            return trees.get(t).kind == 4;
        }

        boolean isFirm(int t) {
            return trees.get(t).kind == 1 || trees.get(t).kind == 3;
        }

        boolean isLow(int t) {
            return trees.get(t).kind == 2 || trees.get(t).kind == 5;
        }

        /** a r + b c = d, with a and b free of common divisors and a sign of their own. */
        List<Integer> line(int p, int q) {
            int a = c(q) - c(p);
            int b = r(p) - r(q);
            int g = gcd(Math.abs(a), Math.abs(b));
            a /= g;
            b /= g;
            if (a < 0 || a == 0 && b < 0) {
                a = -a;
                b = -b;
            }
            return List.of(a, b, a * r(p) + b * c(p));
        }

        boolean isOn(List<Integer> line, int cell) {
            return line.get(0) * r(cell) + line.get(1) * c(cell) == line.get(2);
        }

        /** Rows by their bits, each with its line. */
        TreeMap<Integer, List<Integer>> rows() {
            Map<List<Integer>, Integer> byLine = new HashMap<>();
            for (int t = 0; t < trees.size(); t++) {
                for (int u = 0; u < t; u++) {
                    if (!isCherry(t) && !isCherry(u)) {
                        byLine.merge(line(trees.get(t).cell, trees.get(u).cell), 1 << t | 1 << u, (x, y) -> x | y);
                    }
                }
            }
            TreeMap<Integer, List<Integer>> rows = new TreeMap<>();
            byLine.forEach((line, bits) -> rows.put(bits, line));
            return rows;
        }

        int threes() {
            int count = 0;
            for (int bits : rows().keySet()) {
                if (Integer.bitCount(bits) > 2) {
                    count++;
                }
            }
            return count;
        }

        int rowsWith(int tree, int fewest) {
            int count = 0;
            for (int bits : rows().keySet()) {
                if ((bits >> tree & 1) == 1 && Integer.bitCount(bits) >= fewest) {
                    count++;
                }
            }
            return count;
        }

        State without(int tree) {
            State other = copy();
            other.trees.remove(tree);
            return other;
        }

        State with(int tree, int cell) {
            State other = copy();
            Tree old = other.trees.get(tree);
            other.trees.set(tree, new Tree(old.kind, cell, old.a));
            return other;
        }

        boolean inRow(int set) {
            for (int bits : rows().keySet()) {
                if ((set & bits) == set) {
                    return true;
                }
            }
            return false;
        }

        int met() {
            int count = 0;
            for (int set : wishes) {
                if (inRow(set)) {
                    count++;
                }
            }
            return count;
        }

        boolean canMove(int tree, int cell) {
            return !isFirm(tree) && at(cell) < 0;
        }

        /** The trees, not low, that stand on the way from a cell to another, both left out; nearest first. */
        List<Integer> way(int from, int to) {
            int down = r(to) - r(from);
            int along = c(to) - c(from);
            int g = gcd(Math.abs(down), Math.abs(along));
            List<Integer> met = new ArrayList<>();
            for (int k = 1; k < g; k++) {
                int t = at((r(from) + down / g * k) * side + c(from) + along / g * k);
                if (t >= 0 && !isLow(t)) {
                    met.add(t);
                }
            }
            return met;
        }

        boolean seen(int tree, int cell) {
            int there = trees.get(tree).cell;
            return there != cell && way(cell, there).isEmpty();
        }

        int view(int cell) {
            int bits = 0;
            for (int t = 0; t < trees.size(); t++) {
                bits |= seen(t, cell) ? 1 << t : 0;
            }
            return bits;
        }

        int draw(int n) {
            seed = (int) ((seed * 1103515245L + 12345L) & 0xffffffffL);
            return (int) ((seed & 0xffffffffL) >> 16) % n;
        }
    }

    private State now = new State();
    private State kept;
    private final Object[] shelves = new Object[8];
    private StringBuilder tape = new StringBuilder();
    private final int[] refused = new int[5];

    /** A row of numbers of a sort. */
    private static final class Numbers {
        final int sort;
        final long[] values;

        Numbers(int sort, int n) {
            this.sort = sort;
            this.values = new long[n];
        }
    }

    static int gcd(int a, int b) {
        return b == 0 ? a : gcd(b, a % b);
    }

    private int refuse(int why) {
        refused[-2 - why]++;
        return why;
    }

    private boolean isShelf(long s) {
        return s >= 0 && s < 8;
    }

    private boolean isTree(long t) {
        return t >= 0 && t < now.trees.size();
    }

    private boolean isCell(long c) {
        return c >= 0 && c < now.side * now.side;
    }

    private boolean isSet(long set) {
        return set >= 0 && set < 1L << now.trees.size() && Long.bitCount(set) >= 3;
    }

    private static boolean in(long x, long least, long most) {
        return least <= x && x <= most;
    }

    private void dropShelves(int from) {
        for (int s = 0; s < 8; s++) {
            if (shelves[s] instanceof Integer t && t >= from) {
                shelves[s] = null;
            }
        }
    }

    long call(String name, long[] v) {
        int[] a = new int[5];
        for (int i = 0; i < v.length; i++) {
            a[i] = (int) v[i];
        }
        switch (name) {
            case "row": case "set": case "copy": case "element": case "holds": case "show": case "says": case "judge":
                return ofShelves(name, a, v);
            case "best": case "bestFor": case "moved": case "improve": case "move":
                return ofMoves(name, a);
            case "may": case "most": case "view": case "overlooks": case "behind": case "paths": case "alike":
            case "middle": case "nearest": case "largest": case "squares": case "corners": case "pointed":
                return ofShapes(name, a);
            case "treeOf": case "treeAt": case "many": case "threes": case "rowAt": case "longest": case "alone":
            case "through": case "inLine": case "gap": case "missed": case "least": case "wishOf": case "met":
                return ofRows(name, a);
            default:
                return ofState(name, a);
        }
    }

    private long ofShelves(String name, int[] a, long[] v) {
        Object held = isShelf(a[0]) ? shelves[a[0]] : null;
        switch (name) {
            case "row":
                if (!isShelf(a[0]) || !in(a[1], 0, 4) || !in(a[2], 0, 40)) {
                    return refuse(BAD);
                }
                shelves[a[0]] = new Numbers(a[1], a[2]);
                return 1;
            case "set": {
                if (!isShelf(a[0])) {
                    return refuse(BAD);
                }
                if (held instanceof Integer) {
                    return refuse(OTHER);
                }
                if (held == null) {
                    return refuse(NOTHING);
                }
                Numbers n = (Numbers) held;
                if (!in(a[1], 0, n.values.length - 1)) {
                    return refuse(BAD);
                }
                long x = v[2];
                n.values[a[1]] = n.sort == 4 ? (x == 0 ? 0 : 1) : x << new int[] {56, 48, 32, 0}[n.sort] >> new int[] {56, 48, 32, 0}[n.sort];
                return 1;
            }
            case "copy": {
                if (!isShelf(a[0]) || !isShelf(a[1])) {
                    return refuse(BAD);
                }
                Object to = shelves[a[1]];
                if (held instanceof Integer || to instanceof Integer) {
                    return refuse(OTHER);
                }
                if (held != null && to != null && ((Numbers) held).sort != ((Numbers) to).sort) {
                    return refuse(OTHER);
                }
                if (held == null || to == null) {
                    return refuse(NOTHING);
                }
                long[] p = ((Numbers) held).values;
                long[] q = ((Numbers) to).values;
                if (v[2] < 0 || v[3] < 0 || v[4] < 0 || v[2] + v[4] > p.length || v[3] + v[4] > q.length) {
                    return refuse(BAD);
                }
                long[] were = p.clone();
                for (int k = 0; k < a[4]; k++) {
                    q[a[3] + k] = were[a[2] + k];
                }
                return a[4];
            }
            case "element":
                return held instanceof Numbers n && in(a[1], 0, n.values.length - 1) ? n.values[a[1]] : 0;
            case "holds":
                return held == null ? -1 : held instanceof Integer t ? 10 + t : ((Numbers) held).sort;
            case "show":
                if (!isShelf(a[0]) || a[1] != -1 && !isTree(a[1])) {
                    return refuse(BAD);
                }
                shelves[a[0]] = a[1] == -1 ? null : (Object) a[1];
                return 1;
            case "says":
                return says(a, held);
            default:
                return judge(a, held);
        }
    }

    private static final int[][] UNDER = {{0, 1, 2, 3, 4, 5}, {1, 3}, {2, 5}, {3}, {4}, {5}};

    private long says(int[] a, Object held) {
        if (!isShelf(a[0]) || !in(a[1], 0, 5)) {
            return refuse(BAD);
        }
        if (held instanceof Numbers) {
            return refuse(OTHER);
        }
        if (held == null) {
            return refuse(NOTHING);
        }
        int t = (Integer) held;
        if (Arrays.stream(UNDER[a[1]]).noneMatch(k -> k == now.trees.get(t).kind)) {
            return refuse(OTHER);
        }
        switch (a[1]) {
            case 0:
                return now.rowsWith(t, 3);
            case 1:
                return now.wishes.stream().filter(w -> (w >> t & 1) == 1).count();
            case 2: {
                int count = 0;
                for (int u = 0; u < now.trees.size(); u++) {
                    if (u != t && now.seen(t, now.trees.get(u).cell)) {
                        count++;
                    }
                }
                return count;
            }
            case 4: {
                int least = 1000;
                for (int u = 0; u < now.trees.size(); u++) {
                    if (u != t) {
                        least = Math.min(least, now.apart(now.trees.get(t).cell, now.trees.get(u).cell));
                    }
                }
                return least == 1000 ? 0 : least;
            }
            default:
                return now.trees.get(t).a;
        }
    }

    private long judge(int[] a, Object held) {
        if (!isShelf(a[0]) || !in(a[1], 0, 12)) {
            return refuse(BAD);
        }
        if (held instanceof Integer) {
            return refuse(OTHER);
        }
        if (held == null) {
            return refuse(NOTHING);
        }
        long[] told = ((Numbers) held).values;
        if (told.length < a[1]) {
            return refuse(BAD);
        }
        Set<Long> ahead = new HashSet<>();
        for (int i = 0; i < a[1]; i++) {
            if (!isTree(told[i]) || !ahead.add(told[i]) || now.isCherry((int) told[i])) {
                return i;
            }
            if (i > 1) {
                List<Integer> line = now.line(now.trees.get((int) told[0]).cell, now.trees.get((int) told[1]).cell);
                if (!now.isOn(line, now.trees.get((int) told[i]).cell)) {
                    return i;
                }
            }
        }
        return -1;
    }

    private long ofState(String name, int[] a) {
        switch (name) {
            case "side": {
                if (!in(a[0], 3, 8)) {
                    return refuse(BAD);
                }
                if (!now.trees.isEmpty()) {
                    return refuse(STUCK);
                }
                int was = now.side;
                now.side = a[0];
                return was;
            }
            case "tree":
                if (!in(a[0], 0, 5) || !isCell(a[1]) || !in(a[2], 0, 9)) {
                    return refuse(BAD);
                }
                if (now.at(a[1]) >= 0) {
                    return refuse(STUCK);
                }
                if (now.trees.size() == 12) {
                    return refuse(FULL);
                }
                now.trees.add(new Tree(a[0], a[1], a[2]));
                return now.trees.size() - 1;
            case "wish":
                if (!isSet(a[0])) {
                    return refuse(BAD);
                }
                if (now.wishes.size() == 8) {
                    return refuse(FULL);
                }
                now.wishes.add(a[0]);
                return now.wishes.size() - 1;
            case "content": {
                int were = now.wishes.size();
                now.wishes.clear();
                return were;
            }
            case "fell": {
                int last = now.trees.size() - 1;
                if (last < 0 || now.wishes.stream().anyMatch(w -> (w >> last & 1) == 1)) {
                    return refuse(STUCK);
                }
                now.trees.remove(last);
                dropShelves(last);
                return last;
            }
            case "feed":
                if (!in(a[0], 0, 255)) {
                    return refuse(BAD);
                }
                if (tape.length() == 250) {
                    return refuse(FULL);
                }
                tape.append((char) a[0]);
                return tape.length();
            case "wipe": {
                int was = tape.length();
                tape = new StringBuilder();
                return was;
            }
            case "garden":
                return garden();
            case "turn":
            case "mirror": {
                int n = now.side;
                for (int t = 0; t < now.trees.size(); t++) {
                    Tree old = now.trees.get(t);
                    int r = now.r(old.cell);
                    int c = now.c(old.cell);
                    int cell = name.equals("turn") ? c * n + n - 1 - r : r * n + n - 1 - c;
                    now.trees.set(t, new Tree(old.kind, cell, old.a));
                }
                return call("status", new long[] {4});
            }
            case "plant":
                return plant(a[0]);
            case "seed": {
                int was = now.seed;
                now.seed = a[0];
                return was;
            }
            case "image":
                kept = now.copy();
                return 1;
            case "back":
                if (kept == null) {
                    return refuse(STUCK);
                }
                now = kept.copy();
                dropShelves(now.trees.size());
                return 1;
            case "status":
                return status(a[0]);
            default:
                throw new IllegalStateException(name);
        }
    }

    private long status(int what) {
        int cherries = 0;
        int firm = 0;
        for (int t = 0; t < now.trees.size(); t++) {
            cherries += now.isCherry(t) ? 1 : 0;
            firm += now.isFirm(t) ? 1 : 0;
        }
        int held = (int) Arrays.stream(shelves).filter(s -> s != null).count();
        int[] all = {now.side, now.trees.size(), now.rows().size(), cherries, firm, now.wishes.size(), tape.length(),
            now.seed, held, now.threes(), -1, -1, refused[0], refused[1], refused[2], refused[3], refused[4]};
        return in(what, 0, 16) ? all[what] : -1;
    }

    private long plant(int n) {
        if (!in(n, 1, 12)) {
            return refuse(BAD);
        }
        int cells = now.side * now.side;
        for (int done = 0; done < n; done++) {
            if (now.trees.size() == 12 || now.trees.size() == cells) {
                return done;
            }
            int kind = now.draw(6);
            int cell = now.draw(cells);
            int a = now.draw(10);
            while (now.at(cell) >= 0) {
                cell = (cell + 1) % cells;
            }
            now.trees.add(new Tree(kind, cell, a));
        }
        return n;
    }

    // ---- the tape: all tokens first, then statements over the list

    private record Token(char type, String text, int place) { }

    private long garden() {
        String text = tape.toString();
        tape = new StringBuilder();
        List<Token> tokens = new ArrayList<>();
        Matcher m = Pattern.compile("([a-z]+)|([0-9]+)|(;)|( +)|([\\s\\S])").matcher(text);
        while (m.find()) {
            if (m.group(4) == null) {
                char type = m.group(1) != null ? 'w' : m.group(2) != null ? 'n' : m.group(3) != null ? ';' : '?';
                tokens.add(new Token(type, m.group(), m.start()));
            }
        }
        tokens.add(new Token('e', "", text.length()));
        State old = now;
        now = old.copy();
        int[] at = {0};
        int[] fewest = {now.trees.size()};
        int statements = 0;
        boolean good = true;
        while (good) {
            good = statement(tokens, at, fewest);
            if (good) {
                statements++;
                if (tokens.get(at[0]).type == 'e') {
                    dropShelves(fewest[0]);
                    return statements;
                }
                good = tokens.get(at[0]).type == ';';
                if (good) {
                    at[0]++;
                }
            }
        }
        now = old;
        refuse(BAD);
        return -20 - tokens.get(at[0]).place;
    }

    private int number(Token token) {
        return token.type == 'n' && token.text.length() <= 2 ? Integer.parseInt(token.text) : -1;
    }

    /** Leaves at[0] at the token behind, or at the one at fault. */
    private boolean statement(List<Token> tokens, int[] at, int[] fewest) {
        Token word = tokens.get(at[0]);
        int size = now.trees.size();
        if (word.type != 'w') {
            return false;
        }
        switch (word.text) {
            case "side": {
                if (size > 0) {
                    return false;
                }
                int n = number(tokens.get(++at[0]));
                if (n < 3 || n > 8) {
                    return false;
                }
                now.side = n;
                at[0]++;
                return true;
            }
            case "tree": {
                if (size == 12) {
                    return false;
                }
                int k = number(tokens.get(++at[0]));
                if (k < 0 || k > 5) {
                    return false;
                }
                int c = number(tokens.get(++at[0]));
                if (!isCell(c) || now.at(c) >= 0) {
                    return false;
                }
                int a = number(tokens.get(++at[0]));
                if (a < 0 || a > 9) {
                    return false;
                }
                at[0]++;
                now.trees.add(new Tree(k, c, a));
                return true;
            }
            case "wish": {
                if (now.wishes.size() == 8) {
                    return false;
                }
                TreeSet<Integer> told = new TreeSet<>();
                at[0]++;
                while (told.size() < 3 || tokens.get(at[0]).type == 'n') {
                    int t = number(tokens.get(at[0]));
                    if (!isTree(t) || !told.add(t)) {
                        return false;
                    }
                    at[0]++;
                }
                now.wishes.add(told.stream().mapToInt(t -> 1 << t).sum());
                return true;
            }
            case "move": {
                int t = number(tokens.get(++at[0]));
                if (!isTree(t) || now.isFirm(t)) {
                    return false;
                }
                int c = number(tokens.get(++at[0]));
                if (!isCell(c) || now.at(c) >= 0) {
                    return false;
                }
                at[0]++;
                now = now.with(t, c);
                return true;
            }
            case "fell":
                if (size == 0 || now.wishes.stream().anyMatch(w -> (w >> (size - 1) & 1) == 1)) {
                    return false;
                }
                now.trees.remove(size - 1);
                fewest[0] = Math.min(fewest[0], size - 1);
                at[0]++;
                return true;
            default:
                return false;
        }
    }

    private long ofMoves(String name, int[] a) {
        if (name.equals("move") || name.equals("moved")) {
            if (!isTree(a[0]) || !isCell(a[1])) {
                return refuse(BAD);
            }
            if (!now.canMove(a[0], a[1])) {
                return refuse(STUCK);
            }
            State then = now.with(a[0], a[1]);
            if (name.equals("moved")) {
                return then.threes();
            }
            int was = now.trees.get(a[0]).cell;
            now = then;
            return was;
        }
        if (!name.equals("improve") && !in(a[0], 0, 2)) {
            return refuse(BAD);
        }
        int[] best = {-1, -1, -1};
        for (int t = 0; t < now.trees.size(); t++) {
            for (int c = 0; c < now.side * now.side; c++) {
                if (now.canMove(t, c)) {
                    State then = now.with(t, c);
                    int many = name.equals("bestFor") ? then.met() : then.threes();
                    if (many > best[2]) {
                        best = new int[] {t, c, many};
                    }
                }
            }
        }
        if (!name.equals("improve")) {
            return best[a[0]];
        }
        if (best[2] > now.threes()) {
            now = now.with(best[0], best[1]);
        }
        return now.threes();
    }

    private long ofRows(String name, int[] a) {
        TreeMap<Integer, List<Integer>> rows = now.rows();
        int size = now.trees.size();
        switch (name) {
            case "treeOf":
                if (!isTree(a[0]) || !in(a[1], 0, 4)) {
                    return refuse(BAD);
                }
                Tree tree = now.trees.get(a[0]);
                return new int[] {tree.kind, tree.cell, tree.a, now.rowsWith(a[0], 2), now.rowsWith(a[0], 3)}[a[1]];
            case "treeAt":
                return isCell(a[0]) ? now.at(a[0]) : refuse(BAD);
            case "many":
                return in(a[0], 2, 12) ? rows.keySet().stream().filter(b -> Integer.bitCount(b) == a[0]).count() : refuse(BAD);
            case "threes":
                return now.threes();
            case "rowAt": {
                if (!in(a[0], 2, 12) || a[1] < 0) {
                    return refuse(BAD);
                }
                List<Integer> those = rows.keySet().stream().filter(b -> Integer.bitCount(b) == a[0]).toList();
                return a[1] < those.size() ? those.get(a[1]) : refuse(STUCK);
            }
            case "longest":
                for (int k = 12; k > 1; k--) {
                    for (int bits : rows.keySet()) {
                        if (Integer.bitCount(bits) == k) {
                            return bits;
                        }
                    }
                }
                return refuse(STUCK);
            case "alone": {
                int bits = 0;
                for (int t = 0; t < size; t++) {
                    bits |= now.rowsWith(t, 3) == 0 ? 1 << t : 0;
                }
                return bits;
            }
            case "through":
                if (!isTree(a[0]) || !isTree(a[1]) || a[0] == a[1]) {
                    return refuse(BAD);
                }
                for (int bits : rows.keySet()) {
                    if ((bits >> a[0] & bits >> a[1] & 1) == 1) {
                        return bits;
                    }
                }
                return refuse(STUCK);
            case "inLine":
                return isSet(a[0]) ? now.inRow(a[0]) ? 1 : 0 : refuse(BAD);
            case "gap":
                return gap(a[0], rows);
            case "missed":
                return isTree(a[0]) ? now.threes() - now.without(a[0]).threes() : refuse(BAD);
            case "least": {
                int found = -1;
                int least = 1000;
                for (int t = 0; t < size; t++) {
                    int by = now.threes() - now.without(t).threes();
                    if (by < least) {
                        least = by;
                        found = t;
                    }
                }
                return found < 0 ? refuse(STUCK) : found;
            }
            case "wishOf":
                return in(a[0], 0, now.wishes.size() - 1) ? now.wishes.get(a[0]) : refuse(BAD);
            default:
                if (a[0] == -1) {
                    return now.met();
                }
                return in(a[0], 0, now.wishes.size() - 1) ? now.inRow(now.wishes.get(a[0])) ? 1 : 0 : refuse(BAD);
        }
    }

    /** By the line's equation: the squared distance is (a r + b c - d) squared by (a a + b b). */
    private long gap(int what, TreeMap<Integer, List<Integer>> rows) {
        if (!in(what, 0, 1)) {
            return refuse(BAD);
        }
        long over = -1;
        long under = 1;
        long[] found = {-1, -1};
        for (Map.Entry<Integer, List<Integer>> e : rows.entrySet()) {
            List<Integer> l = e.getValue();
            for (int t = 0; t < now.trees.size(); t++) {
                if (now.isCherry(t) || (e.getKey() >> t & 1) == 1) {
                    continue;
                }
                int cell = now.trees.get(t).cell;
                long off = l.get(0) * now.r(cell) + l.get(1) * now.c(cell) - l.get(2);
                long norm = l.get(0) * l.get(0) + l.get(1) * l.get(1);
                if (over < 0 || off * off * under < over * norm) {
                    over = off * off;
                    under = norm;
                    found = new long[] {e.getKey(), t};
                }
            }
        }
        return over < 0 ? refuse(STUCK) : found[what];
    }

    private long ofShapes(String name, int[] a) {
        int n = now.side;
        int size = now.trees.size();
        int all = (1 << size) - 1;
        switch (name) {
            case "may": {
                long bits = 0;
                for (int c = 0; c < n * n; c++) {
                    if (now.at(c) < 0) {
                        State then = now.copy();
                        then.trees.add(new Tree(0, c, 0));
                        bits |= then.rowsWith(size, 3) == 0 ? 1L << c : 0;
                    }
                }
                return bits;
            }
            case "most":
                return in(a[0], 1, 5) ? most(a[0]) : refuse(BAD);
            case "view":
                return isCell(a[0]) ? now.view(a[0]) : refuse(BAD);
            case "overlooks": {
                long bits = 0;
                for (int c = 0; c < n * n; c++) {
                    bits |= now.at(c) < 0 && now.view(c) == all ? 1L << c : 0;
                }
                return bits;
            }
            case "behind": {
                if (!isTree(a[0]) || !isCell(a[1]) || now.trees.get(a[0]).cell == a[1]) {
                    return refuse(BAD);
                }
                List<Integer> way = now.way(a[1], now.trees.get(a[0]).cell);
                return way.isEmpty() ? -1 : way.get(0);
            }
            case "paths":
                return in(a[0], 0, 3) ? paths(a[0]) : refuse(BAD);
            case "alike":
                return alike();
            case "middle": {
                if (size == 0) {
                    return refuse(STUCK);
                }
                int found = -1;
                int least = Integer.MAX_VALUE;
                for (int c = 0; c < n * n; c++) {
                    int sum = 0;
                    for (Tree t : now.trees) {
                        sum += now.apart(c, t.cell);
                    }
                    if (sum < least) {
                        least = sum;
                        found = c;
                    }
                }
                return found;
            }
            case "nearest":
                for (int d = 1; d < 20 && size > 1; d++) {
                    for (int t = 0; t < size; t++) {
                        for (int u = t + 1; u < size; u++) {
                            if (now.apart(now.trees.get(t).cell, now.trees.get(u).cell) == d) {
                                return 100 * t + u;
                            }
                        }
                    }
                }
                return refuse(STUCK);
            case "largest": {
                int most = 0;
                for (Tree p : now.trees) {
                    for (Tree q : now.trees) {
                        for (Tree s : now.trees) {
                            most = Math.max(most, cross(p.cell, q.cell, s.cell));
                        }
                    }
                }
                return most;
            }
            case "squares":
                return squares();
            case "corners":
                return corners();
            default: {
                if (!isCell(a[0])) {
                    return refuse(BAD);
                }
                int count = 0;
                for (Map.Entry<Integer, List<Integer>> e : now.rows().entrySet()) {
                    if (Integer.bitCount(e.getKey()) > 2 && now.isOn(e.getValue(), a[0])) {
                        count++;
                    }
                }
                return count;
            }
        }
    }

    private int cross(int p, int q, int s) {
        return now.r(p) * (now.c(q) - now.c(s)) + now.r(q) * (now.c(s) - now.c(p)) + now.r(s) * (now.c(p) - now.c(q));
    }

    private int paths(int slope) {
        int n = now.side;
        int[] step = new int[][] {{0, 1}, {1, 0}, {1, 1}, {1, -1}}[slope];
        int count = 0;
        for (int start = 0; start < n * n; start++) {
            int r = start / n;
            int c = start % n;
            if (in(r - step[0], 0, n - 1) && in(c - step[1], 0, n - 1)) {
                continue;
            }
            boolean free = true;
            for (; in(r, 0, n - 1) && in(c, 0, n - 1); r += step[0], c += step[1]) {
                free &= now.at(r * n + c) < 0;
            }
            count += free ? 1 : 0;
        }
        return count;
    }

    private int alike() {
        int n = now.side;
        Set<Integer> cells = new HashSet<>();
        now.trees.forEach(t -> cells.add(t.cell));
        int count = 0;
        for (int k = 0; k < 8; k++) {
            Set<Integer> images = new HashSet<>();
            for (int cell : cells) {
                int r = (k & 1) == 0 ? cell / n : n - 1 - cell / n;
                int c = (k & 2) == 0 ? cell % n : n - 1 - cell % n;
                images.add((k & 4) == 0 ? r * n + c : c * n + r);
            }
            count += images.equals(cells) ? 1 : 0;
        }
        return count;
    }

    private int squares() {
        int size = now.trees.size();
        int count = 0;
        for (int set = 0; set < 1 << size; set++) {
            if (Integer.bitCount(set) == 4) {
                List<Integer> lengths = new ArrayList<>();
                for (int t = 0; t < size; t++) {
                    for (int u = 0; u < t; u++) {
                        if ((set >> t & set >> u & 1) == 1) {
                            int dr = now.r(now.trees.get(t).cell) - now.r(now.trees.get(u).cell);
                            int dc = now.c(now.trees.get(t).cell) - now.c(now.trees.get(u).cell);
                            lengths.add(dr * dr + dc * dc);
                        }
                    }
                }
                lengths.sort(null);
                int s = lengths.get(0);
                count += lengths.equals(List.of(s, s, s, s, 2 * s, 2 * s)) ? 1 : 0;
            }
        }
        return count;
    }

    /** The hull by two chains over the cells in their order. */
    private int corners() {
        List<Integer> cells = new ArrayList<>();
        now.trees.forEach(t -> cells.add(t.cell));
        cells.sort(null);
        int bits = 0;
        for (int way = 0; way < 2; way++) {
            List<Integer> chain = new ArrayList<>();
            for (int cell : cells) {
                while (chain.size() > 1 && cross(chain.get(chain.size() - 2), chain.get(chain.size() - 1), cell) * (way == 0 ? 1 : -1) <= 0) {
                    chain.remove(chain.size() - 1);
                }
                chain.add(cell);
            }
            for (int cell : chain) {
                bits |= 1 << now.at(cell);
            }
        }
        return bits;
    }

    /** By trying all sets, cell by cell. */
    private static int most(int m) {
        if (!MOST.containsKey(m)) {
            MOST.put(m, mostFrom(m, 0, new ArrayList<>()));
        }
        return MOST.get(m);
    }

    private static int mostFrom(int m, int cell, List<Integer> chosen) {
        if (cell == m * m) {
            return chosen.size();
        }
        int most = mostFrom(m, cell + 1, chosen);
        for (int p : chosen) {
            for (int q : chosen) {
                if (p < q && (q / m - p / m) * (cell % m - p % m) == (q % m - p % m) * (cell / m - p / m)) {
                    return most;
                }
            }
        }
        chosen.add(cell);
        most = Math.max(most, mostFrom(m, cell + 1, chosen));
        chosen.remove(chosen.size() - 1);
        return most;
    }
}
