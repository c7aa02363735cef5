import java.util.ArrayList;
import java.util.Arrays;
import java.util.List;

/** Checks single calls on a Scene: what they answer, what status() says then, and what they leave as it was. */
final class Edges {
    private static final String TRACE = Scene.trace(Scene.made(0));
    private static final String NO_TRACE = Scene.trace(new LonelyDots());
    private static final String REST = Scene.rest(Scene.made(0));

    private final Checks checks;

    Edges(Checks checks) {
        this.checks = checks;
    }

    /** BAD or FULL: changes nothing at all, whatever the status is ahead. */
    void refused(String name, int answer, Scene.Call call) {
        for (int status = 0; status <= 5; status++) {
            unchanged(name, call, answer, status, status, TRACE);
        }
    }

    void bad(String name, Scene.Call call) {
        refused(name, Checks.BAD, call);
    }

    /** A FINDING: changes nothing but the status. */
    void found(String name, int finding, Scene.Call call) {
        for (int status = 0; status <= 5; status++) {
            unchanged(name, call, finding, status, -1000010 - finding, TRACE);
        }
    }

    /** A FINDING of ask(): THE TRACE is empty then, too. */
    void foundByAsk(String name, int finding, Scene.Call call) {
        for (int status = 0; status <= 5; status++) {
            unchanged(name, call, finding, status, -1000010 - finding, NO_TRACE);
        }
    }

    /** A call that is answered without a FINDING and changes nothing but the status. */
    void told(String name, int answer, Scene.Call call) {
        for (int status = 0; status <= 5; status++) {
            unchanged(name, call, answer, status, 0, TRACE);
        }
    }

    /** A call without a SHEET or a place, or clear() or is(): it leaves the status, too. */
    void toldAside(String name, int answer, Scene.Call call) {
        refused(name, answer, call);
    }

    /** A call that is answered without a FINDING; it may change the scene. */
    LonelyDots taken(String name, int answer, Scene.Call call) {
        LonelyDots last = null;
        for (int status = 0; status <= 5; status++) {
            last = Scene.made(status);
            checks.due(name, call.on(last), answer);
            checks.due(name + ": status()", last.status(), 0);
        }
        return last;
    }

    private void unchanged(String name, Scene.Call call, int answer, int ahead, int status, String trace) {
        LonelyDots x = Scene.made(ahead);
        checks.due(name, call.on(x), answer);
        checks.due(name + ": status() behind " + ahead, x.status(), status);
        same(name + " changes THE TRACE", Scene.trace(x), trace);
        same(name + " changes", Scene.rest(x), REST);
    }

    private void same(String name, String seen, String want) {
        if (!seen.equals(want)) {
            System.out.println("seen:\n" + seen + "\ndue:\n" + want);
        }
        checks.due(name, seen.equals(want) ? 0 : 1, 0);
    }

    // ---- tables: the values of each parameter, with what is due to a call that has them

    /** A value of a parameter; of all values of a call the one of the least rank says what is due. */
    record Value(int number, int rank, int answer) {
    }

    private static final int FINE = 1000;

    static List<Value> fine(int... numbers) {
        return then(FINE, 0, numbers);
    }

    /** BAD ahead of everything. */
    static List<Value> bad(int... numbers) {
        return then(0, Checks.BAD, numbers);
    }

    static List<Value> then(int rank, int answer, int... numbers) {
        List<Value> values = new ArrayList<>();
        for (int number : numbers) {
            values.add(new Value(number, rank, answer));
        }
        return values;
    }

    /** From the last values that are taken to the first ones that are BAD, and the farthest. */
    static List<Value> from(int least, int greatest) {
        return join(bad(Integer.MIN_VALUE, least - 1, greatest + 1, Integer.MAX_VALUE), fine(least, greatest));
    }

    /** The BAD ones of from() alone, for a parameter of which other values are told one by one. */
    static List<Value> outside(int least, int greatest) {
        return bad(Integer.MIN_VALUE, least - 1, greatest + 1, Integer.MAX_VALUE);
    }

    @SafeVarargs
    static List<Value> join(List<Value>... some) {
        List<Value> all = new ArrayList<>();
        for (List<Value> values : some) {
            all.addAll(values);
        }
        return all;
    }

    /** A call with all its parameters in a row. */
    interface Row {
        int on(LonelyDots x, int[] v);
    }

    /** Tries all values of all parameters together; setsStatus: a call with a SHEET or a place. */
    void table(String name, boolean setsStatus, Row call, List<List<Value>> parameters) {
        int size = 1;
        for (List<Value> values : parameters) {
            size *= values.size();
        }
        for (int row = 0; row < size; row++) {
            int[] v = new int[parameters.size()];
            Value first = new Value(0, FINE, 0);
            int left = row;
            for (int k = 0; k < v.length; k++) {
                Value value = parameters.get(k).get(left % parameters.get(k).size());
                left /= parameters.get(k).size();
                v[k] = value.number;
                first = value.rank < first.rank ? value : first;
            }
            line(name + Arrays.toString(v), setsStatus, call, v, first, row % 6);
        }
    }

    private void line(String name, boolean setsStatus, Row call, int[] v, Value first, int ahead) {
        boolean refused = first.answer == Checks.BAD || first.answer == Checks.FULL;
        int finding = first.answer <= Checks.NULL ? -1000010 - first.answer : 0;
        int status = refused || !setsStatus ? ahead : finding;
        if (first.rank == FINE) {
            LonelyDots x = Scene.made(ahead);
            int answer = call.on(x, v);
            checks.due(name + " is answered: " + answer, answer > Checks.NONE ? 1 : 0, 1);
            checks.due(name + ": status()", x.status(), status);
            return;
        }
        boolean empties = name.startsWith("ask") && !refused;
        unchanged(name, x -> call.on(x, v), first.answer, ahead, status, empties ? NO_TRACE : TRACE);
    }
}
