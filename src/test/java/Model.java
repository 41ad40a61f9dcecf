import java.util.ArrayList;
import java.util.Arrays;
import java.util.List;
import java.util.TreeSet;

/**
 * The document once more, written plainly with Strings, lists and whole copies
 * and without any of the program's ways, to compare the program's answers with.
 */
final class Model {
    static final int BAD = -1, FULL = -2, FINDING = -3, STATE = -4, NONE = -9;

    static final class Person {
        int kind, came, mistaken, called, due;
        String name = "";

        Person twin() {
            Person p = new Person();
            p.kind = kind;
            p.came = came;
            p.mistaken = mistaken;
            p.called = called;
            p.due = due;
            p.name = name;
            return p;
        }

        boolean dead() {
            return kind == 3;
        }

        boolean mother() {
            return kind == 1 || kind == 5;
        }

        void wear(int way) {
            due++;
            if (kind == 4 && due % 2 == 1 || name.isEmpty()) {
                return;
            }
            int i = name.length() - 1;
            if (way == 1) {
                i = 0;
            }
            if (way == 2 && name.matches(".*[aeiou].*")) {
                i = 0;
                while ("aeiou".indexOf(name.charAt(i)) < 0) {
                    i++;
                }
            }
            name = name.substring(0, i) + name.substring(i + 1);
        }
    }

    static final class State {
        List<Person> people = new ArrayList<>();
        int paid;

        State twin() {
            State s = new State();
            for (Person p : people) {
                s.people.add(p.twin());
            }
            s.paid = paid;
            return s;
        }

        boolean can(int by, int x) {
            Person a = people.get(by);
            Person b = people.get(x);
            return by != x && !a.dead() && !b.dead() && !b.name.isEmpty();
        }

        TreeSet<Integer> coming(int by, int x) {
            TreeSet<Integer> set = new TreeSet<>();
            String sound = people.get(x).name;
            for (int y = 0; y < people.size(); y++) {
                Person p = people.get(y);
                boolean hears = people.get(by).kind == 5
                    ? p.name.startsWith(sound.substring(0, 1)) : p.name.equals(sound);
                if (y != by && !p.dead() && hears) {
                    set.add(y);
                }
            }
            return set;
        }

        int act(int by, int x, int way) {
            TreeSet<Integer> set = coming(by, x);
            people.get(by).called++;
            for (int y : set) {
                people.get(y).came++;
                people.get(y).mistaken += y == x ? 0 : 1;
                if (!people.get(by).mother()) {
                    people.get(y).wear(way);
                }
            }
            return bits(set);
        }
    }

    static final class History {
        /** The town ahead of each deed, and as it is now at the end. */
        List<State> states = new ArrayList<>();

        History twin() {
            History h = new History();
            h.states.addAll(states);
            return h;
        }
    }

    int[][] rows = new int[6][];
    byte[][] texts = new byte[4][];
    History history = new History();
    History[] kept = new History[3];
    int way, price = 3, asked, finding;
    int[] findings = new int[6];

    Model() {
        history.states.add(new State());
    }

    static int bits(Iterable<Integer> set) {
        int b = 0;
        for (int x : set) {
            b |= 1 << x;
        }
        return b;
    }

    State now() {
        return history.states.get(history.states.size() - 1);
    }

    int deeds() {
        return history.states.size() - 1;
    }

    List<Person> people() {
        return now().people;
    }

    int found(int f) {
        finding = f;
        findings[f]++;
        return FINDING;
    }

    boolean in(int v, int low, int high) {
        return v >= low && v <= high;
    }

    boolean one(int x) {
        return in(x, 0, people().size() - 1);
    }

    public int row(int r, int n) {
        if (!in(r, 0, 5) || n > 40) return BAD;
        if (n < 0) return found(5);
        rows[r] = new int[n];
        return n;
    }

    public int lay(int r, int i, int v) {
        int answer = at(r, i);
        if (answer == 1) rows[r][i] = v;
        return answer;
    }

    public int at(int r, int i) {
        if (!in(r, 0, 5)) return BAD;
        if (rows[r] == null) return found(1);
        if (!in(i, 0, rows[r].length - 1)) return found(2);
        asked = rows[r][i];
        return 1;
    }

    public int tear(int r) {
        if (!in(r, 0, 5)) return BAD;
        if (rows[r] == null) return found(1);
        rows[r] = null;
        return 1;
    }

    public int copy(int r, int i, int to, int j, int n) {
        if (!in(r, 0, 5) || !in(to, 0, 5)) return BAD;
        if (n < 0) return found(5);
        if (rows[r] == null || rows[to] == null) return found(1);
        if (i < 0 || j < 0 || (long) i + n > rows[r].length || (long) j + n > rows[to].length) return found(2);
        int[] taken = Arrays.copyOfRange(rows[r], i, i + n);
        for (int k = 0; k < n; k++) rows[to][j + k] = taken[k];
        return 1;
    }

    public int mean(int r) {
        if (!in(r, 0, 5)) return BAD;
        if (rows[r] == null) return found(1);
        if (rows[r].length == 0) return found(4);
        long sum = 0;
        for (int v : rows[r]) sum += v;
        asked = (int) (sum / rows[r].length);
        return 1;
    }

    public int text(int t, int n) {
        if (!in(t, 0, 3) || n > 80) return BAD;
        if (n < 0) return found(5);
        texts[t] = new byte[n];
        Arrays.fill(texts[t], (byte) 32);
        return n;
    }

    public int put(int t, int i, int v) {
        if (!in(t, 0, 3)) return BAD;
        if (texts[t] == null) return found(1);
        if (!in(i, 0, texts[t].length - 1)) return found(2);
        int was = texts[t][i];
        texts[t][i] = (byte) v;
        return 1000 + was;
    }

    /** Fills people; the place of the FAULT or NONE. */
    int parse(byte[] text, List<Person> into) {
        int p = 0;
        while (true) {
            while (p < text.length && text[p] == 32) p++;
            if (p == text.length) return NONE;
            if (into.size() == 7 || text[p] < '1' || text[p] > '6') return p;
            Person one = new Person();
            one.kind = text[p] - '1';
            into.add(one);
            p++;
            while (p < text.length && text[p] >= 'a' && text[p] <= 'z') {
                if (one.name.length() == 6) return p;
                one.name += (char) text[p];
                p++;
            }
            if (one.name.isEmpty()) return p;
        }
    }

    public int fault(int t) {
        if (!in(t, 0, 3)) return BAD;
        if (texts[t] == null) return found(1);
        return parse(texts[t], new ArrayList<>());
    }

    public int town(int t) {
        if (!in(t, 0, 3)) return BAD;
        if (texts[t] == null) return found(1);
        State s = new State();
        if (parse(texts[t], s.people) != NONE) return STATE;
        history = new History();
        history.states.add(s);
        kept = new History[3];
        return s.people.size();
    }

    int fact(int x, int what) {
        Person p = people().get(x);
        return new int[] {p.kind, p.name.length(), p.came, p.mistaken, p.called}[what];
    }

    public int person(int x, int what) {
        if (!one(x) || !in(what, 0, 4)) return BAD;
        asked = fact(x, what);
        return 1;
    }

    public int letter(int x, int i) {
        if (!one(x) || i < 0) return BAD;
        String name = people().get(x).name;
        return i < name.length() ? name.charAt(i) : found(2);
    }

    int sharing(int x) {
        int n = 0;
        for (int y = 0; y < people().size(); y++) {
            Person p = people().get(y);
            if (y != x && !p.dead() && p.name.equals(people().get(x).name)) n++;
        }
        return n;
    }

    public int mark(int x, int kind) {
        if (!one(x) || !in(kind, 1, 5)) return BAD;
        Person p = people().get(x);
        if (p.kind != kind && !(kind == 1 && p.kind == 5)) return found(3);
        if (kind == 2) return now().paid;
        if (kind == 4) return p.due % 2 == 0 ? 2 : 1;
        if (kind == 5) return now().can(x, 0) ? now().coming(x, 0).size() : 0;
        return sharing(x);
    }

    public int way(int v) {
        if (!in(v, 0, 2)) return BAD;
        int was = way;
        way = v;
        return was;
    }

    public int price(int v) {
        if (!in(v, 0, 99)) return BAD;
        int was = price;
        price = v;
        return was;
    }

    int actNow(int by, int x) {
        State next = now().twin();
        int b = next.act(by, x, way);
        history.states.add(next);
        return b;
    }

    public int call(int by, int x) {
        if (!one(by) || !one(x) || by == x) return BAD;
        if (!now().can(by, x)) return STATE;
        if (deeds() >= 60) return FULL;
        return actNow(by, x);
    }

    public int mend(int smith, int x, int letter) {
        if (!one(smith) || !one(x) || !in(letter, 'a', 'z')) return BAD;
        if (people().get(smith).kind != 2) return found(3);
        if (people().get(x).dead() || people().get(x).name.length() == 6) return STATE;
        if (deeds() >= 60) return FULL;
        int cost = "aeiou".indexOf(letter) >= 0 ? price : 1;
        State next = now().twin();
        next.people.get(x).name += (char) letter;
        next.paid += cost;
        history.states.add(next);
        return cost;
    }

    public int undo(int n) {
        if (!in(n, 0, deeds())) return BAD;
        int undone = deeds() - n;
        history.states = new ArrayList<>(history.states.subList(0, n + 1));
        return undone;
    }

    public int comes(int by, int x) {
        if (!one(by) || !one(x) || by == x) return BAD;
        if (!now().can(by, x)) return STATE;
        return bits(now().coming(by, x));
    }

    public int alike(int x) {
        if (!one(x)) return BAD;
        int b = 0;
        for (int y = 0; y < people().size(); y++) {
            Person p = people().get(y);
            if (y == x || !p.dead() && p.name.equals(people().get(x).name)) b |= 1 << y;
        }
        return b;
    }

    public int keep(int k) {
        if (!in(k, 0, 2)) return BAD;
        if (people().isEmpty()) return STATE;
        kept[k] = history.twin();
        return deeds();
    }

    public int on(int k) {
        if (!in(k, 0, 2)) return BAD;
        if (kept[k] == null) return found(1);
        history = kept[k].twin();
        return deeds();
    }

    public int lasts(int x) {
        if (!one(x)) return BAD;
        if (people().get(x).dead()) return found(4);
        return until(x, "");
    }

    int until(int x, String name) {
        Person p = people().get(x).twin();
        for (int n = 0; n <= 20; n++) {
            if (p.name.equals(name)) return n;
            p.wear(way);
        }
        return NONE;
    }

    public int becomes(int x, int y) {
        if (!one(x) || !one(y) || x == y) return BAD;
        if (people().get(x).dead()) return found(4);
        return until(x, people().get(y).name);
    }

    List<String> namesAfter(int n) {
        List<String> names = new ArrayList<>();
        for (Person p : people()) {
            Person q = p.twin();
            for (int i = 0; i < n; i++) q.wear(way);
            if (!q.dead()) names.add(q.name);
        }
        return names;
    }

    public int unlike(int n) {
        if (!in(n, 0, 12)) return BAD;
        TreeSet<String> set = new TreeSet<>();
        asked = 0;
        for (String s : namesAfter(n)) {
            if (s.isEmpty()) asked++;
            else set.add(s);
        }
        return set.size();
    }

    public int first() {
        for (int n = 0; n <= 20; n++) {
            List<String> names = namesAfter(n);
            for (int i = 0; i < names.size(); i++) {
                for (int j = 0; j < i; j++) {
                    if (!names.get(i).isEmpty() && names.get(i).equals(names.get(j))) return n;
                }
            }
        }
        return NONE;
    }

    int nameFault(int t) {
        if (!in(t, 0, 3)) return BAD;
        if (texts[t] == null) return found(1);
        if (!in(texts[t].length, 1, 6)) return found(5);
        for (byte b : texts[t]) {
            if (b < 'a' || b > 'z') return found(3);
        }
        return 0;
    }

    String spelled(int t) {
        StringBuilder s = new StringBuilder();
        for (byte b : texts[t]) s.append((char) b);
        return s.toString();
    }

    int lasting(String name, int except) {
        Person p = new Person();
        p.name = name;
        for (int n = 0; ; n++) {
            if (p.name.isEmpty()) return n;
            for (int y = 0; y < people().size(); y++) {
                Person q = people().get(y);
                if (y != except && !q.dead() && q.name.equals(p.name)) return n;
            }
            p.wear(way);
        }
    }

    public int name(int t) {
        int refused = nameFault(t);
        return refused != 0 ? refused : lasting(spelled(t), -1);
    }

    public int best(int x) {
        if (!one(x)) return BAD;
        Person p = people().get(x);
        if (p.dead() || p.name.length() == 6) return STATE;
        int best = 'z';
        for (char c = 'z'; c >= 'a'; c--) {
            if (lasting(p.name + c, x) >= lasting(p.name + (char) best, x)) best = c;
        }
        asked = lasting(p.name + (char) best, x);
        return best;
    }

    int callsFault(int r, int most) {
        if (rows[r] == null) return found(1);
        if (rows[r].length > most) return found(5);
        for (int v : rows[r]) {
            if (v < 0 || !one(v / 100) || !one(v % 100) || v / 100 == v % 100) return found(3);
        }
        return 0;
    }

    /** How many can be from the start on, and the mistakes of those. */
    int[] run(State from, int[] calls) {
        State s = from.twin();
        int mistakes = 0;
        for (int i = 0; i < calls.length; i++) {
            if (!s.can(calls[i] / 100, calls[i] % 100)) return new int[] {i, mistakes};
            mistakes += Integer.bitCount(s.act(calls[i] / 100, calls[i] % 100, way)) - 1;
        }
        return new int[] {calls.length, mistakes};
    }

    public int judge(int r) {
        if (!in(r, 0, 5)) return BAD;
        int refused = callsFault(r, 40);
        if (refused != 0) return refused;
        int[] got = run(now(), rows[r]);
        asked = got[1];
        return got[0];
    }

    public int order(int r, int to) {
        if (!in(r, 0, 5) || !in(to, 0, 5)) return BAD;
        int refused = callsFault(r, 6);
        if (refused != 0) return refused;
        int n = rows[r].length;
        int all = 1;
        for (int i = 0; i < n; i++) all *= n;
        int fewest = NONE;
        int[] best = null;
        for (int code = 0; code < all; code++) {
            int[] places = figures(code, n, n);
            if (Arrays.stream(places).distinct().count() != n) continue;
            int[] calls = new int[n];
            for (int i = 0; i < n; i++) calls[i] = rows[r][places[i]];
            int[] got = run(now(), calls);
            if (got[0] == n && (fewest == NONE || got[1] < fewest)) {
                fewest = got[1];
                best = places;
            }
        }
        if (best != null) rows[to] = best;
        return fewest;
    }

    int[] figures(int code, int base, int n) {
        int[] f = new int[n];
        int rest = code;
        for (int i = n - 1; i >= 0; i--) {
            f[i] = rest % base;
            rest /= base;
        }
        return f;
    }

    public int callers(int r, int to) {
        if (!in(r, 0, 5) || !in(to, 0, 5)) return BAD;
        if (rows[r] == null) return found(1);
        int n = rows[r].length;
        if (n > 5) return found(5);
        for (int v : rows[r]) {
            if (!one(v)) return found(3);
        }
        int all = 1;
        for (int i = 0; i < n; i++) all *= people().size();
        int fewest = NONE;
        int[] best = null;
        for (int code = 0; code < all; code++) {
            int[] by = figures(code, people().size(), n);
            int[] calls = new int[n];
            for (int i = 0; i < n; i++) calls[i] = 100 * by[i] + rows[r][i];
            int[] got = run(now(), calls);
            if (got[0] == n && (fewest == NONE || got[1] < fewest)) {
                fewest = got[1];
                best = by;
            }
        }
        if (best != null) rows[to] = best;
        return fewest;
    }

    public int spare(int r) {
        if (!in(r, 0, 5)) return BAD;
        int refused = callsFault(r, 40);
        if (refused != 0) return refused;
        int fewest = NONE;
        int who = 0;
        for (int x = people().size() - 1; x >= 0; x--) {
            for (int n = 5; n >= 1; n--) {
                State s = now().twin();
                Person p = s.people.get(x);
                p.name += "aaaaaa".substring(0, n);
                int[] got = run(s, rows[r]);
                boolean well = !p.dead() && p.name.length() <= 6 && got[0] == rows[r].length && got[1] == 0;
                if (well && (fewest == NONE || n <= fewest)) {
                    fewest = n;
                    who = x;
                }
            }
        }
        for (int x = people().size() - 1; x >= 0; x--) {
            State s = now().twin();
            Person p = s.people.get(x);
            if (p.name.isEmpty() && !p.dead()) {
                p.name = "aaaaaa";
                int[] got = run(s, rows[r]);
                if (got[0] == rows[r].length && got[1] == 0 && (fewest == NONE || fewest == 6)) {
                    fewest = 6;
                    who = x;
                }
            }
        }
        int[] asIs = run(now(), rows[r]);
        if (asIs[0] == rows[r].length && asIs[1] == 0) {
            fewest = 0;
            who = 0;
        }
        if (fewest != NONE) asked = who;
        return fewest;
    }

    public int whose(int t) {
        int refused = nameFault(t);
        if (refused != 0) return refused;
        int b = 0;
        int fewest = 99;
        for (int x = 0; x < people().size(); x++) {
            int n = until(x, spelled(t));
            if (!people().get(x).dead() && n != NONE) {
                b |= 1 << x;
                fewest = Math.min(fewest, n);
            }
        }
        asked = b == 0 ? NONE : fewest;
        return b;
    }

    /** Refused, or 0, with all rows that hold. */
    int holding(int by, int r, List<int[]> into) {
        if (people().get(by).dead()) return STATE;
        if (rows[r] == null) return found(1);
        int n = rows[r].length;
        if (n > 4) return found(5);
        int size = people().size();
        for (int v : rows[r]) {
            if (v < 0 || v >> size != 0) return found(3);
        }
        int all = 1;
        for (int i = 0; i < n; i++) all *= size;
        for (int code = 0; code < all; code++) {
            int[] called = figures(code, size, n);
            State s = now().twin();
            boolean holds = true;
            for (int i = 0; i < n && holds; i++) {
                holds = s.can(by, called[i]) && s.act(by, called[i], way) == rows[r][i];
            }
            if (holds) into.add(called);
        }
        return 0;
    }

    public int held(int by, int r) {
        if (!one(by) || !in(r, 0, 5)) return BAD;
        List<int[]> all = new ArrayList<>();
        int refused = holding(by, r, all);
        if (refused != 0) return refused;
        asked = NONE;
        if (!all.isEmpty()) {
            asked = 0;
            for (int f : all.get(0)) asked = 7 * asked + f;
        }
        return all.size();
    }

    public int could(int by, int r, int i) {
        if (!one(by) || !in(r, 0, 5) || !in(i, 0, 3)) return BAD;
        List<int[]> all = new ArrayList<>();
        int refused = holding(by, r, all);
        if (refused != 0) return refused;
        if (i >= rows[r].length) return BAD;
        int b = 0;
        for (int[] called : all) b |= 1 << called[i];
        return b;
    }

    public int crowd(int t) {
        int refused = nameFault(t);
        if (refused != 0) return refused;
        int b = 0;
        asked = 0;
        for (int x = 0; x < people().size(); x++) {
            Person p = people().get(x);
            if (!p.dead() && p.name.startsWith(spelled(t))) b |= 1 << x;
            if (!p.dead() && p.name.equals(spelled(t))) asked |= 1 << x;
        }
        return b;
    }

    public int shortest(int x) {
        if (!one(x)) return BAD;
        Person p = people().get(x);
        if (p.dead()) return STATE;
        for (int n = 1; n <= p.name.length(); n++) {
            boolean alone = true;
            for (int y = 0; y < people().size(); y++) {
                Person q = people().get(y);
                alone &= y == x || q.dead() || !q.name.startsWith(p.name.substring(0, n));
            }
            if (alone) return n;
        }
        return NONE;
    }

    public int days(int n, int seed) {
        if (!in(n, 1, 60) || !in(seed, 1, 2147483646)) return BAD;
        int size = people().size();
        if (size < 2) return STATE;
        if (deeds() + n > 60) return FULL;
        int calls = 0;
        long lot = seed;
        for (int i = 0; i < n; i++) {
            lot = 48271 * lot % 2147483647;
            int by = (int) (lot % size);
            int x = (int) (lot / 64 % size);
            if (now().can(by, x)) {
                actNow(by, x);
                calls++;
            }
        }
        return calls;
    }

    public int asked() {
        return asked;
    }

    long[] part() {
        long some = 0;
        long all = 0;
        for (Person p : people()) {
            some += p.mistaken;
            all += p.came;
        }
        if (all == 0) return new long[] {0, 1};
        long d = java.math.BigInteger.valueOf(some).gcd(java.math.BigInteger.valueOf(all)).longValue();
        return new long[] {some / d, all / d};
    }

    public long upper() {
        return part()[0];
    }

    public long lower() {
        return part()[1];
    }

    public int count(int what) {
        int letters = 0;
        int mothers = 0;
        int uncalled = 0;
        for (Person p : people()) {
            letters += p.name.length();
            mothers += p.mother() ? 1 : 0;
            uncalled += p.dead() || p.name.isEmpty() ? 1 : 0;
        }
        int[] all = {people().size(), deeds(), letters, mothers, uncalled, there(kept), there(rows), there(texts), now().paid};
        return in(what, 0, 8) ? all[what] : BAD;
    }

    int there(Object[] some) {
        int n = 0;
        for (Object o : some) n += o == null ? 0 : 1;
        return n;
    }

    public int finding() {
        return finding;
    }

    public int findings(int f) {
        return in(f, 1, 5) ? findings[f] : BAD;
    }

    public long digest() {
        List<Integer> v = new ArrayList<>();
        for (int i = 0; i < 9; i++) v.add(count(i));
        v.add(way);
        v.add(price);
        for (int x = 0; x < people().size(); x++) {
            for (int what = 0; what < 5; what++) v.add(fact(x, what));
            Person p = people().get(x);
            for (char c : p.name.toCharArray()) v.add((int) c);
            v.add(p.kind == 4 ? p.due % 2 : 0);
        }
        for (History h : kept) v.add(h == null ? -1 : h.states.size() - 1);
        for (int[] row : rows) {
            v.add(row == null ? -1 : row.length);
            if (row != null) for (int i : row) v.add(i);
        }
        for (byte[] text : texts) {
            v.add(text == null ? -1 : text.length);
            if (text != null) for (byte b : text) v.add((int) b);
        }
        long h = 17;
        for (int i : v) h = 31 * h + i;
        return h;
    }
}
