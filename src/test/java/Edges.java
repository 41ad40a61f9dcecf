import java.lang.reflect.InvocationTargetException;
import java.lang.reflect.Method;
import java.util.Arrays;
import java.util.Comparator;
import java.util.TreeSet;
import java.util.function.IntSupplier;

/**
 * What the tests of edges share. A method p12_.. is a test of its own of one sentence of
 * promise 12 (p00_..: of the Terms), on a new object.
 */
abstract class Edges {
    static final int BAD = -1, FULL = -2, FINDING = -3, STATE = -4, NONE = -9;
    static final int NOTHING = 1, BEYOND = 2, UNLIKE = 3, NOUGHT = 4, SIZE = 5;
    static final int LOW = Integer.MIN_VALUE, HIGH = Integer.MAX_VALUE;
    static final int[] NO_ROWS = {-1, 6, LOW, HIGH};
    static final int[] NO_TEXTS = {-1, 4, LOW, HIGH};
    static final int[] NO_PLACES_TO_KEEP = {-1, 3, LOW, HIGH};
    /** Numbers that are none in a TOWN of seven. */
    static final int[] NOBODY = {-1, 7, LOW, HIGH};
    /** ONE anna, MOTHER ann, SMITH bela, DEAD ann, HARD carla, NURSE cora, ONE anne. */
    static final String TOWN = "1anna 2ann 3bela 4ann 5carla 6cora 1anne";

    WornNames w;
    private String test;
    private int checks;
    private int wrong;

    /** Runs each test, and asks that every promise from the first to the last has one. */
    final void run(int first, int last) {
        Method[] tests = getClass().getDeclaredMethods();
        Arrays.sort(tests, Comparator.comparing(Method::getName));
        TreeSet<Integer> missing = new TreeSet<>();
        for (int promise = first; promise <= last; promise++) missing.add(promise);
        int n = 0;
        for (Method method : tests) {
            if (!method.getName().matches("p\\d\\d_.*")) continue;
            missing.remove(Integer.parseInt(method.getName().substring(1, 3)));
            runOne(method);
            n++;
        }
        if (!missing.isEmpty()) blame("promises without a test: " + missing);
        System.out.println(n + " tests of edges, " + wrong + " answers not as due");
        if (wrong != 0) System.exit(1);
    }

    private void runOne(Method method) {
        test = method.getName();
        checks = 0;
        w = new WornNames();
        try {
            method.invoke(this);
        } catch (InvocationTargetException e) {
            blame(test + " was thrown out of: " + e.getCause());
        } catch (IllegalAccessException e) {
            blame(test + " can't be run: " + e);
        }
        if (checks == 0) blame(test + " looks at nothing");
    }

    private void blame(String what) {
        wrong++;
        System.out.println(what);
    }

    private String place() {
        return StackWalker.getInstance().walk(frames -> frames
            .filter(f -> f.getMethodName().matches("p\\d\\d_.*")).findFirst()
            .map(f -> f.getMethodName() + ", line " + f.getLineNumber()).orElse(test));
    }

    final void due(long got, long want) {
        checks++;
        if (got != want) blame(place() + ": answered " + got + ", due is " + want);
    }

    /** An answer, and what asked() tells then. */
    final void dueAsked(int got, int want, int asked) {
        due(got, want);
        due(w.asked(), asked);
    }

    /** BAD, FULL, STATE, or NONE: nothing changes. */
    final void refused(int want, IntSupplier call) {
        looked(want, 0, call);
    }

    /** A FINDING: nothing changes but finding() and how often that one was answered. */
    final void finds(int finding, IntSupplier call) {
        looked(FINDING, finding, call);
    }

    private void looked(int want, int finding, IntSupplier call) {
        long digest = w.digest();
        int asked = w.asked();
        int latest = w.finding();
        int[] often = new int[6];
        for (int f = 1; f <= 5; f++) often[f] = w.findings(f);
        due(call.getAsInt(), want);
        due(w.digest(), digest);
        due(w.asked(), asked);
        due(w.finding(), finding == 0 ? latest : finding);
        for (int f = 1; f <= 5; f++) due(w.findings(f), often[f] + (f == finding ? 1 : 0));
    }

    final void write(int t, String s) {
        w.text(t, s.length());
        for (int i = 0; i < s.length(); i++) w.put(t, i, s.charAt(i));
    }

    final void begin(String town) {
        write(0, town);
        due(w.town(0), town.replaceAll("[^1-6]", "").length());
    }

    final void lay(int r, int... values) {
        w.row(r, values.length);
        for (int i = 0; i < values.length; i++) w.lay(r, i, values[i]);
    }

    /** The ROW has these ints and no more. */
    final void dueRow(int r, int... values) {
        for (int i = 0; i < values.length; i++) dueAsked(w.at(r, i), 1, values[i]);
        due(w.at(r, values.length), FINDING);
        due(w.finding(), BEYOND);
    }

    /** The NAME of x is that one, no more. */
    final void dueName(int x, String name) {
        for (int i = 0; i < name.length(); i++) due(w.letter(x, i), name.charAt(i));
        due(w.letter(x, name.length()), FINDING);
        due(w.finding(), BEYOND);
    }

    final void duePerson(int x, int what, int want) {
        dueAsked(w.person(x, what), 1, want);
    }

    final void callTimes(int times, int by, int x) {
        for (int i = 0; i < times; i++) w.call(by, x);
    }
}
