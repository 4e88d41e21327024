import java.util.TreeSet;

/** Counts and prints what is not as due; a test ends with finish(). */
final class Checks {
    private final String test;
    private final TreeSet<Integer> covered = new TreeSet<>();
    private int wrong;
    private int made;

    Checks(String test) {
        this.test = test;
    }

    void due(String call, long got, long want) {
        made++;
        if (got != want) {
            wrong++;
            System.out.println(test + ": " + call + " answered " + got + ", due is " + want);
        }
    }

    void holds(String what, boolean is) {
        made++;
        if (!is) {
            wrong++;
            System.out.println(test + ": it does not hold that " + what);
        }
    }

    void covers(int promise) {
        covered.add(promise);
    }

    void allCovered(int... promises) {
        for (int promise : promises) {
            holds("there is a check of promise " + promise, covered.contains(promise));
        }
    }

    void finish() {
        System.out.println(test + ": " + made + " checks, " + wrong + " wrong");
        if (wrong != 0 || made == 0) {
            System.exit(1);
        }
    }

    static void feed(NineTrees x, String text) {
        for (int i = 0; i < text.length(); i++) {
            x.feed(text.charAt(i));
        }
    }

    static int garden(NineTrees x, String text) {
        feed(x, text);
        return x.garden();
    }

    static NineTrees planted(String text) {
        NineTrees x = new NineTrees();
        if (garden(x, text) < 0) {
            throw new IllegalStateException("not a garden: " + text);
        }
        return x;
    }
}
