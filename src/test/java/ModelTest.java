import java.lang.reflect.Method;
import java.util.ArrayList;
import java.util.HashMap;
import java.util.List;
import java.util.Map;
import java.util.Random;

/** Runs of calls by chance (of fixed seeds), each answer compared with the model's. */
public final class ModelTest {
    /** Each method with the kinds of numbers that it takes. */
    private static final String[] CALLS = {
        "row R N", "lay R I V", "at R I", "tear R", "copy R I R I M", "mean R", "text T N", "put T I B", "fault T",
        "town T", "person X W", "letter X I", "mark X K", "way A", "price P", "call X X", "mend X X L", "undo U",
        "comes X X", "alike X", "keep Q", "on Q", "lasts X", "becomes X X", "unlike D", "first", "name T", "best X",
        "judge R", "order R R", "callers R R", "spare R", "whose T", "held X R", "could X R C", "crowd T",
        "shortest X", "days D S", "asked", "upper", "lower", "count O", "finding", "findings F", "digest"};
    /** Few letters, so that names meet; few vowels; all letters. A run takes one of them. */
    private static final String[] ALPHABETS = {"aabnne", "aabnne", "dtzdxo", "abcdefghijklmnopqrstuvwxyz"};
    private static final int RUNS = 1000;
    private static final int STEPS = 150;
    private static final int[] EDGES = {Integer.MIN_VALUE, Integer.MAX_VALUE, -1, -100, 128, 1 << 20, 60, 61};

    private final Map<String, Method> program = new HashMap<>();
    private final Map<String, Method> model = new HashMap<>();
    private final List<String> told = new ArrayList<>();
    private final Map<String, Integer> answered = new HashMap<>();
    private Random random;
    private String alphabet;
    private WornNames names;
    private Model due;
    private int wrong = 0;

    private ModelTest() throws Exception {
        for (Method m : WornNames.class.getDeclaredMethods()) program.put(m.getName(), m);
        for (Method m : Model.class.getDeclaredMethods()) {
            Method same = program.get(m.getName());
            if (same != null && same.getParameterCount() == m.getParameterCount()) model.put(m.getName(), m);
        }
    }

    public static void main(String[] args) throws Exception {
        ModelTest test = new ModelTest();
        for (int seed = 1; seed <= RUNS && test.wrong == 0; seed++) test.run(seed);
        test.lookForUnusedAnswers();
        System.out.println(test.wrong == 0 ? "the model agrees" : test.wrong + " answers are not the model's");
        if (test.wrong != 0) System.exit(1);
    }

    private void run(int seed) throws Exception {
        random = new Random(seed);
        alphabet = ALPHABETS[seed % ALPHABETS.length];
        names = new WornNames();
        due = new Model();
        told.clear();
        if (random.nextInt(10) != 0) writeTown();
        for (int i = 0; i < STEPS && wrong == 0; i++) {
            int what = random.nextInt(16);
            if (what == 0) writeName();
            else if (what == 1) writeCalls();
            else if (what == 2) writePeople();
            else if (what == 3) writeSets();
            else if (what == 4) manyCalls();
            else if (what == 5 && random.nextInt(8) == 0) writeTown();
            else byChance();
        }
    }

    private int any(int n) {
        return random.nextInt(n);
    }

    private int argument(char kind) {
        if (any(25) == 0) return EDGES[any(EDGES.length)];
        int people = due.people().size();
        switch (kind) {
            case 'R': return any(30) == 0 ? any(9) - 1 : any(3);
            case 'T': return any(30) == 0 ? any(6) - 1 : any(2);
            case 'N': return any(4) == 0 ? any(90) - 3 : any(8);
            case 'I': return any(8) - 1;
            case 'M': return any(5) - 1;
            case 'V': return any(3) == 0 ? random.nextInt() : any(720);
            case 'B': return any(4) == 0 ? random.nextInt() : "ab1236 ".charAt(any(7));
            case 'X': return any(12) == 0 ? any(10) - 1 : people == 0 ? 0 : any(people);
            case 'W': case 'K': return any(8) - 1;
            case 'A': return any(9) == 0 ? any(6) - 1 : any(3);
            case 'P': return any(9) == 0 ? any(120) - 2 : any(6);
            case 'L': return any(9) == 0 ? 90 + any(40) : alphabet.charAt(any(alphabet.length()));
            case 'U': return any(9) == 0 ? any(70) - 1 : any(due.deeds() + 1);
            case 'Q': return any(9) == 0 ? any(6) - 1 : any(3);
            case 'C': return any(6) - 1;
            case 'D': return any(15) == 0 ? 50 + any(12) : any(15) - 1;
            case 'S': return any(3) == 0 ? Integer.MAX_VALUE - any(3) : random.nextInt() & 0xffffff;
            case 'O': return any(12) - 1;
            default: return any(8) - 1;
        }
    }

    private void byChance() throws Exception {
        String[] parts = CALLS[any(CALLS.length)].split(" ");
        int[] args = new int[parts.length - 1];
        for (int i = 0; i < args.length; i++) args[i] = argument(parts[i + 1].charAt(0));
        // a town by chance would mostly drop what the run has built
        if (parts[0].equals("town") && any(4) != 0) return;
        ask(parts[0], args);
    }

    private void ask(String name, int... args) throws Exception {
        if (wrong > 0) return;
        Object[] boxed = new Object[args.length];
        StringBuilder call = new StringBuilder(name);
        for (int i = 0; i < args.length; i++) {
            boxed[i] = args[i];
            call.append(i == 0 ? "(" : ", ").append(args[i]);
        }
        told.add(call.toString());
        long want = ((Number) model.get(name).invoke(due, boxed)).longValue();
        long got = ((Number) program.get(name).invoke(names, boxed)).longValue();
        answered.merge(name + " " + (want >= 0 ? "well" : String.valueOf(want)), 1, Integer::sum);
        compare(call.toString(), got, want);
        compare("asked() then", names.asked(), due.asked());
        compare("finding() then", names.finding(), due.finding());
        for (int f = 1; f <= 5; f++) compare("findings then", names.findings(f), due.findings(f));
        compare("digest() then", names.digest(), due.digest());
    }

    private void compare(String call, long got, long want) {
        if (got != want) {
            if (wrong++ == 0) for (String line : told) System.out.println(line);
            System.out.println(call + " answered " + got + ", the model " + want);
        }
    }

    private void writeText(int t, String s) throws Exception {
        ask("text", t, s.length());
        for (int i = 0; i < s.length(); i++) ask("put", t, i, s.charAt(i));
    }

    private String letters(int most) {
        StringBuilder s = new StringBuilder();
        for (int n = 1 + any(most); n > 0; n--) s.append(alphabet.charAt(any(alphabet.length())));
        return s.toString();
    }

    private void writeTown() throws Exception {
        StringBuilder s = new StringBuilder();
        int people = any(5) == 0 ? any(9) : 4 + any(4);
        for (int i = 0; i < people; i++) {
            s.append("111223456".charAt(any(9))).append(letters(any(4) == 0 ? 6 : 4));
            for (int n = any(3); n > 0; n--) s.append(' ');
        }
        if (any(8) == 0 && s.length() > 0) s.setCharAt(any(s.length()), "a 17\u00e9".charAt(any(5)));
        if (any(8) == 0 && s.length() > 0) s.setLength(any(s.length()));
        writeText(0, s.toString());
        ask("fault", 0);
        ask("town", 0);
    }

    private void writeName() throws Exception {
        writeText(1, any(12) == 0 ? letters(8) + "1" : letters(5));
        ask("name", 1);
        ask("whose", 1);
        ask("crowd", 1);
    }

    private void writeCalls() throws Exception {
        if (due.people().size() < 2) return;
        int n = any(10) == 0 ? any(12) : any(6);
        ask("row", 0, n);
        for (int i = 0; i < n; i++) {
            int by = any(due.people().size());
            int x = any(due.people().size());
            ask("lay", 0, i, any(60) == 0 ? argument('V') : by == x ? 100 * by + (x + 1) % due.people().size() : 100 * by + x);
        }
        ask("judge", 0);
        ask("order", 0, any(3));
        ask("spare", any(2));
    }

    private void writePeople() throws Exception {
        int n = any(10) == 0 ? any(7) : any(4);
        ask("row", 1, n);
        for (int i = 0; i < n; i++) ask("lay", 1, i, argument('X'));
        ask("callers", 1, any(3));
    }

    /** Sets as they would come, so that some rows hold. */
    private void writeSets() throws Exception {
        int people = due.people().size();
        if (people == 0) return;
        int by = any(people);
        int n = any(10) == 0 ? any(6) : any(5);
        ask("row", 2, n);
        Model.State s = due.now().twin();
        for (int i = 0; i < n; i++) {
            int x = any(people);
            for (int tries = 0; tries < people && !s.can(by, x); tries++) x = (x + 1) % people;
            int set = s.can(by, x) ? s.act(by, x, due.way) : any(128);
            ask("lay", 2, i, any(40) == 0 ? any(140) - 2 : set);
        }
        ask("held", by, 2);
        ask("could", by, 2, any(5));
    }

    private void manyCalls() throws Exception {
        if (any(4) == 0) callTillFull();
        for (int n = any(20); n > 0; n--) ask("call", argument('X'), argument('X'));
    }

    /** A mother's calls wear nothing, so they can go on till the town is full. */
    private void callTillFull() throws Exception {
        for (int by = 0; by < due.people().size(); by++) {
            for (int x = 0; x < due.people().size(); x++) {
                if (due.people().get(by).mother() && due.now().can(by, x)) {
                    while (due.deeds() < 60 && wrong == 0) ask("call", by, x);
                    ask("call", by, x);
                    for (int y = 0; y < due.people().size(); y++) ask("mend", y, by, 'b');
                    ask("days", 1, 7);
                    ask("undo", any(61));
                    return;
                }
            }
        }
    }

    /** The runs are of use only if each method was answered well often enough. */
    private void lookForUnusedAnswers() {
        for (String call : CALLS) {
            String name = call.split(" ")[0];
            if (answered.getOrDefault(name + " well", 0) < 20) {
                wrong++;
                System.out.println(name + " was hardly tried");
            }
        }
        for (String rare : new String[] {"call -2", "mend -2", "days -2", "order -9", "callers -9", "spare -9", "shortest -9",
            "becomes -9", "first -9", "call -4", "mend -4", "mend -3", "held -4", "held -3", "could -4", "fault -9", "town -4"}) {
            if (answered.getOrDefault(rare, 0) == 0) {
                wrong++;
                System.out.println("never: " + rare);
            }
        }
    }
}
