import java.util.Arrays;

/** Checks of one call by two objects of the same calls: what it answers, what is refused, and what changes. */
final class Twins {
    private final Checks checks;
    private String sentence = "";

    Twins(Checks checks) {
        this.checks = checks;
    }

    /** The promise's number and the words of the document that the next checks are for. */
    void of(int promise, String words) {
        checks.covers(promise);
        sentence = promise + ": " + words;
    }

    void bad(String setup, String... calls) {
        refused(-2, setup, calls);
    }

    void other(String setup, String... calls) {
        refused(-3, setup, calls);
    }

    void nothing(String setup, String... calls) {
        refused(-4, setup, calls);
    }

    void stuck(String setup, String... calls) {
        refused(-5, setup, calls);
    }

    void full(String setup, String... calls) {
        refused(-6, setup, calls);
    }

    private void refused(int why, String setup, String... calls) {
        for (String call : calls) {
            Run one = new Run(setup);
            due(setup, call, one.call(call), why);
            compare(setup, call, one, new Run(setup), -2 - why);
        }
    }

    /** A tape with a fault: nothing is left but one refusal, as if the tape had been wiped. */
    void fault(String setup, String text, int place) {
        String told = setup + " '" + text + "'";
        Run one = new Run(told);
        Run other = new Run(told);
        due(told, "garden()", one.call("garden()"), -20 - place);
        other.call("wipe()");
        compare(told, "garden()", one, other, 0);
    }

    /** Calls told as "call=answer", each on an object of its own: none is refused, nothing changes. */
    void asks(String setup, String... told) {
        for (String call : told) {
            Run one = new Run(setup);
            answer(setup, call, one);
            compare(setup, call, one, new Run(setup), -1);
        }
    }

    /** Calls told as "call=answer", one behind the other on one object: none is refused. */
    void runs(String setup, String... told) {
        Run one = new Run(setup);
        for (String call : told) {
            answer(setup, call, one);
        }
        checks.holds(sentence + ": none is refused in " + Arrays.toString(told), Arrays.stream(one.refusals()).sum() == 0);
    }

    private void answer(String setup, String told, Run run) {
        int mark = told.lastIndexOf('=');
        String call = told.substring(0, mark);
        due(setup, call, run.call(call), Long.decode(told.substring(mark + 1)));
    }

    private void due(String setup, String call, long got, long want) {
        checks.due(sentence + " [" + setup + "] " + call, got, want);
    }

    /** The place of the one refusal more; -1: there is none more. */
    private void compare(String setup, String call, Run one, Run other, int place) {
        long[] want = other.refusals();
        if (place >= 0) {
            want[place]++;
        }
        String head = sentence + " [" + setup + "] " + call + ": ";
        checks.holds(head + "refusals are counted as due", Arrays.equals(one.refusals(), want));
        checks.holds(head + "nothing else has changed", one.picture().equals(other.picture()));
    }
}
