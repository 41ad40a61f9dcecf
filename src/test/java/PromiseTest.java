/** Each promise with answers worked out by hand from the document. */
public final class PromiseTest {
    private static final int BAD = -1, FULL = -2, FINDING = -3, STATE = -4, NONE = -9;
    private static final int LOW = Integer.MIN_VALUE, HIGH = Integer.MAX_VALUE;
    /** ONE anna, MOTHER ann, SMITH bela, DEAD ann, HARD carla, NURSE cora, ONE anne. */
    private static final String TOWN = "1anna 2ann 3bela 4ann 5carla 6cora 1anne";

    private static int wrong = 0;
    private static int promise = 0;
    private static WornNames w = new WornNames();

    public static void main(String[] args) {
        newObject();
        rows();
        copies();
        texts();
        faults();
        towns();
        people();
        marks();
        settings();
        calls();
        nurses();
        waysOfWearing();
        mendings();
        undoing();
        keeping();
        lasting();
        becoming();
        unlikeNames();
        namesAmongOthers();
        judging();
        ordering();
        callingBy();
        sparing();
        whoseNames();
        holding();
        crowds();
        daysByLots();
        asking();
        parts();
        counting();
        findingsTold();
        digests();
        System.out.println(wrong == 0 ? "all promises hold" : wrong + " answers are not as due");
        if (wrong != 0) System.exit(1);
    }

    private static void due(String call, long got, long want) {
        if (got != want) {
            wrong++;
            System.out.println("promise " + promise + ": " + call + " answered " + got + ", due is " + want);
        }
    }

    private static void dueFinding(String call, int got, int which) {
        due(call, got, FINDING);
        due(call + " finding()", w.finding(), which);
    }

    private static void dueAsked(String call, int got, int want, int asked) {
        due(call, got, want);
        due(call + " asked()", w.asked(), asked);
    }

    private static void write(int t, String s) {
        w.text(t, s.length());
        for (int i = 0; i < s.length(); i++) w.put(t, i, s.charAt(i));
    }

    private static void begin(int number, String town) {
        promise = number;
        w = new WornNames();
        write(0, town);
        w.town(0);
    }

    private static void lay(int r, int... values) {
        w.row(r, values.length);
        for (int i = 0; i < values.length; i++) w.lay(r, i, values[i]);
    }

    private static void dueRow(int r, int... values) {
        for (int i = 0; i < values.length; i++) {
            due("at(" + r + ", " + i + ")", w.at(r, i), 1);
            due("its asked()", w.asked(), values[i]);
        }
        due("at() behind the last", w.at(r, values.length), FINDING);
    }

    private static void dueName(int x, String name) {
        for (int i = 0; i < name.length(); i++) due("letter(" + x + ", " + i + ")", w.letter(x, i), name.charAt(i));
        due("letter() behind the last of " + x, w.letter(x, name.length()), FINDING);
    }

    private static void newObject() {
        promise = 1;
        w = new WornNames();
        for (int what = 0; what <= 8; what++) due("count(" + what + ")", w.count(what), 0);
        due("asked()", w.asked(), 0);
        due("finding()", w.finding(), 0);
        due("person(0, 0)", w.person(0, 0), BAD);
        due("way(0)", w.way(0), 0);
        due("price(3)", w.price(3), 3);
        due("constants", WornNames.BAD * 1000 + WornNames.FULL * 100 + WornNames.FINDING * 10 + WornNames.STATE, -1234);
        due("SPENT", WornNames.SPENT, -6);
        due("NONE", WornNames.NONE, NONE);
    }

    private static void rows() {
        begin(2, "");
        due("row(0, 40)", w.row(0, 40), 40);
        due("row(5, 0)", w.row(5, 0), 0);
        due("row(0, 41)", w.row(0, 41), BAD);
        due("row(6, 1)", w.row(6, 1), BAD);
        due("row(-1, -1)", w.row(-1, -1), BAD);
        dueFinding("row(0, -1)", w.row(0, -1), 5);
        dueFinding("row(0, LOW)", w.row(0, LOW), 5);
        due("row(0, HIGH)", w.row(0, HIGH), BAD);
        w.lay(0, 0, 7);
        w.row(0, 2);
        dueRow(0, 0, 0);
        promise = 3;
        dueAsked("lay(0, 1, LOW)", w.lay(0, 1, LOW), 1, 0);
        dueAsked("lay(0, 1, 4)", w.lay(0, 1, 4), 1, LOW);
        due("lay(6, 0, 0)", w.lay(6, 0, 0), BAD);
        dueFinding("lay(1, 0, 0)", w.lay(1, 0, 0), 1);
        dueFinding("lay(1, -1, 0)", w.lay(1, -1, 0), 1);
        dueFinding("lay(0, 2, 0)", w.lay(0, 2, 0), 2);
        dueFinding("lay(0, -1, 0)", w.lay(0, -1, 0), 2);
        promise = 4;
        dueAsked("at(0, 1)", w.at(0, 1), 1, 4);
        due("at(-1, 0)", w.at(-1, 0), BAD);
        dueFinding("at(1, 9)", w.at(1, 9), 1);
        dueFinding("at(0, 2)", w.at(0, 2), 2);
        dueFinding("at(0, LOW)", w.at(0, LOW), 2);
        dueFinding("at(5, 0)", w.at(5, 0), 2);
        promise = 5;
        due("tear(0)", w.tear(0), 1);
        dueFinding("tear(0)", w.tear(0), 1);
        due("tear(6)", w.tear(6), BAD);
        promise = 7;
        lay(0, -7, 0, 0);
        dueAsked("mean(0)", w.mean(0), 1, -2);
        lay(0, HIGH, HIGH, HIGH);
        dueAsked("mean(0)", w.mean(0), 1, HIGH);
        lay(0, LOW, LOW);
        dueAsked("mean(0)", w.mean(0), 1, LOW);
        lay(0, 9);
        dueAsked("mean(0) of one", w.mean(0), 1, 9);
        dueFinding("mean(5)", w.mean(5), 4);
        dueFinding("mean(4)", w.mean(4), 1);
        due("mean(6)", w.mean(6), BAD);
    }

    private static void copies() {
        begin(6, "");
        lay(0, 1, 2, 3, 4, 5);
        due("copy(0, 0, 0, 1, 4)", w.copy(0, 0, 0, 1, 4), 1);
        dueRow(0, 1, 1, 2, 3, 4);
        due("copy(0, 2, 0, 0, 3)", w.copy(0, 2, 0, 0, 3), 1);
        dueRow(0, 2, 3, 4, 3, 4);
        w.row(1, 2);
        due("copy(0, 3, 1, 0, 2)", w.copy(0, 3, 1, 0, 2), 1);
        dueRow(1, 3, 4);
        due("copy(0, 5, 1, 2, 0)", w.copy(0, 5, 1, 2, 0), 1);
        dueFinding("copy(0, 6, 1, 2, 0)", w.copy(0, 6, 1, 2, 0), 2);
        dueFinding("copy(0, 5, 1, 3, 0)", w.copy(0, 5, 1, 3, 0), 2);
        dueFinding("copy(0, 0, 1, 0, 3)", w.copy(0, 0, 1, 0, 3), 2);
        dueFinding("copy(1, 0, 0, 0, 3)", w.copy(1, 0, 0, 0, 3), 2);
        dueFinding("copy(0, -1, 1, 0, 1)", w.copy(0, -1, 1, 0, 1), 2);
        dueFinding("copy(0, 1, 1, 0, HIGH)", w.copy(0, 1, 1, 0, HIGH), 2);
        dueFinding("copy(0, HIGH, 1, 0, HIGH)", w.copy(0, HIGH, 1, 0, HIGH), 2);
        dueFinding("copy(0, 0, 2, 0, 0)", w.copy(0, 0, 2, 0, 0), 1);
        dueFinding("copy(2, 9, 0, 0, 0)", w.copy(2, 9, 0, 0, 0), 1);
        dueFinding("copy(2, 0, 0, 0, -1)", w.copy(2, 0, 0, 0, -1), 5);
        due("copy(6, 0, 0, 0, -1)", w.copy(6, 0, 0, 0, -1), BAD);
        due("copy(0, 0, -1, 0, 0)", w.copy(0, 0, -1, 0, 0), BAD);
    }

    private static void texts() {
        promise = 8;
        w = new WornNames();
        due("text(3, 80)", w.text(3, 80), 80);
        due("text(0, 81)", w.text(0, 81), BAD);
        due("text(4, 1)", w.text(4, 1), BAD);
        due("text(-1, -1)", w.text(-1, -1), BAD);
        dueFinding("text(0, -1)", w.text(0, -1), 5);
        due("count(7)", w.count(7), 1);
        promise = 9;
        due("put(3, 79, 97)", w.put(3, 79, 97), 1032);
        due("put(3, 79, 128)", w.put(3, 79, 128), 1097);
        due("put(3, 79, 255)", w.put(3, 79, 255), 1000 - 128);
        due("put(3, 79, 256)", w.put(3, 79, 256), 999);
        due("put(3, 79, HIGH)", w.put(3, 79, HIGH), 1000);
        due("asked()", w.asked(), 0);
        w.text(3, 80);
        due("put(3, 79, 0)", w.put(3, 79, 0), 1032);
        dueFinding("put(3, 80, 0)", w.put(3, 80, 0), 2);
        dueFinding("put(3, -1, 0)", w.put(3, -1, 0), 2);
        dueFinding("put(0, -1, 0)", w.put(0, -1, 0), 1);
        due("put(4, 0, 0)", w.put(4, 0, 0), BAD);
    }

    private static void dueFault(String town, int want) {
        write(0, town);
        due("fault of '" + town + "'", w.fault(0), want);
    }

    private static void faults() {
        begin(10, "");
        dueFault("", NONE);
        dueFault("   ", NONE);
        dueFault("  1a  6zzzzzz ", NONE);
        dueFault("1a2b3c", NONE);
        dueFault("1a1a1a1a1a1a1a", NONE);
        dueFault("1a1a1a1a1a1a1a 1a", 15);
        dueFault("1", 1);
        dueFault("1a 2", 4);
        dueFault("1 a", 1);
        dueFault("11a", 1);
        dueFault("1aaaaaaa", 7);
        dueFault("1aaaaaa a", 8);
        dueFault("0a", 0);
        dueFault("7a", 0);
        dueFault("a", 0);
        dueFault("1aA", 2);
        dueFault("1a`", 2);
        dueFault("1a{", 2);
        dueFault("1a\u00e1", 2);
        due("fault(4)", w.fault(4), BAD);
        dueFinding("fault(1)", w.fault(1), 1);
    }

    private static void towns() {
        begin(11, TOWN);
        due("count(0)", w.count(0), 7);
        w.way(1);
        w.price(9);
        w.mend(2, 1, 'a');
        w.call(2, 0);
        w.keep(0);
        w.keep(2);
        write(1, "1a 2");
        due("town(1)", w.town(1), STATE);
        dueFinding("town(2)", w.town(2), 1);
        due("town(4)", w.town(4), BAD);
        due("count(1) of the old town", w.count(1), 2);
        write(1, " 3b 1a");
        due("town(1)", w.town(1), 2);
        due("count(1)", w.count(1), 0);
        due("count(5)", w.count(5), 0);
        due("count(8)", w.count(8), 0);
        due("person(0, 4)", w.person(0, 4), 1);
        due("asked()", w.asked(), 0);
        due("way(1)", w.way(1), 1);
        due("price(9)", w.price(9), 9);
        w.text(1, 3);
        due("town(1) without people", w.town(1), 0);
        due("keep(0)", w.keep(0), STATE);
    }

    private static void people() {
        begin(12, TOWN);
        w.call(2, 6);
        w.call(2, 6);
        dueAsked("person(4, 0)", w.person(4, 0), 1, 4);
        dueAsked("person(6, 1)", w.person(6, 1), 1, 2);
        dueAsked("person(6, 2)", w.person(6, 2), 1, 2);
        dueAsked("person(6, 3)", w.person(6, 3), 1, 0);
        dueAsked("person(1, 2)", w.person(1, 2), 1, 1);
        dueAsked("person(1, 3)", w.person(1, 3), 1, 1);
        dueAsked("person(2, 4)", w.person(2, 4), 1, 2);
        due("person(7, 0)", w.person(7, 0), BAD);
        due("person(-1, 0)", w.person(-1, 0), BAD);
        due("person(0, 5)", w.person(0, 5), BAD);
        due("person(0, -1)", w.person(0, -1), BAD);
        promise = 13;
        dueName(4, "carla");
        due("letter(7, 0)", w.letter(7, 0), BAD);
        due("letter(0, -1)", w.letter(0, -1), BAD);
        dueFinding("letter(0, 4)", w.letter(0, 4), 2);
        dueFinding("letter(0, HIGH)", w.letter(0, HIGH), 2);
    }

    private static void marks() {
        begin(14, "1anna 2ann 3ann 4ann 5ann 6anna 4anna");
        due("mother", w.mark(1, 1), 2);
        due("nurse as a mother", w.mark(5, 1), 1);
        due("dead one", w.mark(3, 3), 3);
        due("dead one", w.mark(6, 3), 2);
        due("nurse", w.mark(5, 5), 4);
        due("hard one", w.mark(4, 4), 2);
        w.call(0, 4);
        due("hard one", w.mark(4, 4), 1);
        w.call(1, 4);
        due("hard one, pointed at", w.mark(4, 4), 1);
        w.call(0, 4);
        due("hard one", w.mark(4, 4), 2);
        w.mend(2, 0, 'e');
        w.mend(2, 0, 'b');
        due("smith", w.mark(2, 2), 4);
        dueFinding("mark(1, 5)", w.mark(1, 5), 3);
        dueFinding("mark(0, 1)", w.mark(0, 1), 3);
        dueFinding("mark(3, 1)", w.mark(3, 1), 3);
        due("mark(0, 0)", w.mark(0, 0), BAD);
        due("mark(0, 6)", w.mark(0, 6), BAD);
        due("mark(7, 1)", w.mark(7, 1), BAD);
        begin(14, "6ab 1ac");
        due("nurse who is one 0", w.mark(0, 5), 0);
        begin(14, "4ab 6ac");
        due("nurse of a dead one 0", w.mark(1, 5), 0);
        begin(14, "1a 6ab 2b 1b");
        w.call(3, 0);
        due("nurse of a nameless one 0", w.mark(1, 5), 0);
        w.call(0, 2);
        due("nameless mother", w.mark(2, 1), 2);
    }

    private static void settings() {
        begin(15, "");
        due("way(2)", w.way(2), 0);
        due("way(3)", w.way(3), BAD);
        due("way(-1)", w.way(-1), BAD);
        due("way(1)", w.way(1), 2);
        promise = 16;
        due("price(0)", w.price(0), 3);
        due("price(99)", w.price(99), 0);
        due("price(100)", w.price(100), BAD);
        due("price(-1)", w.price(-1), BAD);
        due("price(1)", w.price(1), 99);
    }

    private static void calls() {
        begin(17, TOWN);
        due("call(2, 0)", w.call(2, 0), 1);
        dueName(0, "ann");
        due("call(2, 1)", w.call(2, 1), 3);
        dueName(0, "an");
        dueName(1, "an");
        dueName(3, "ann");
        due("call(1, 0) by a mother", w.call(1, 0), 1);
        dueName(0, "an");
        due("call(0, 1): not the caller", w.call(0, 1), 2);
        dueName(0, "an");
        due("call(3, 0)", w.call(3, 0), STATE);
        due("call(0, 3)", w.call(0, 3), STATE);
        due("call(0, 0)", w.call(0, 0), BAD);
        due("call(0, 7)", w.call(0, 7), BAD);
        due("call(-1, 0)", w.call(-1, 0), BAD);
        w.call(2, 1);
        due("call(2, 1) without letters", w.call(2, 1), STATE);
        due("call(1, 0) by one without letters", w.call(1, 0), 1);
        promise = 20;
        due("comes(2, 4)", w.comes(2, 4), 16);
        due("count(1) after comes()", w.count(1), 6);
        due("comes(2, 1)", w.comes(2, 1), STATE);
        due("comes(3, 0)", w.comes(3, 0), STATE);
        due("comes(2, 2)", w.comes(2, 2), BAD);
        due("comes(2, 7)", w.comes(2, 7), BAD);
        promise = 17;
        for (int i = 6; i < 60; i++) w.call(1, 0);
        due("count(1)", w.count(1), 60);
        due("call(1, 0) with 60", w.call(1, 0), FULL);
        due("call(3, 0) with 60: FULL is last", w.call(3, 0), STATE);
        due("comes(1, 0) with 60", w.comes(1, 0), 1);
        promise = 18;
        due("mend(2, 0, 'a') with 60", w.mend(2, 0, 'a'), FULL);
        due("mend(2, 3, 'a') with 60", w.mend(2, 3, 'a'), STATE);
        promise = 39;
        due("days(1, 1) with 60", w.days(1, 1), FULL);
        promise = 21;
        begin(21, TOWN);
        due("alike(3): the dead one, too", w.alike(3), 10);
        due("alike(1): no dead one", w.alike(1), 2);
        due("alike(7)", w.alike(7), BAD);
        w.call(2, 0);
        due("alike(0)", w.alike(0), 3);
    }

    private static void nurses() {
        begin(17, "6abc 1abd 1a 4ab 2acc 1bab 6add");
        due("a nurse calls by the first letter", w.call(0, 1), 2 + 4 + 16 + 64);
        dueName(1, "abd");
        due("another nurse", w.call(6, 2), 1 + 2 + 4 + 16);
        dueAsked("person(1, 2)", w.person(1, 2), 1, 2);
        dueAsked("person(1, 3)", w.person(1, 3), 1, 1);
        dueAsked("person(3, 2)", w.person(3, 2), 1, 0);
        due("call(5, 1) by another one", w.call(5, 1), 2);
        dueName(1, "ab");
    }

    private static void waysOfWearing() {
        begin(17, "1xbab 1y 5cdab");
        w.call(1, 0);
        dueName(0, "xba");
        w.way(1);
        w.call(1, 0);
        dueName(0, "ba");
        w.way(2);
        w.call(1, 0);
        dueName(0, "b");
        w.call(1, 0);
        dueName(0, "");
        w.call(1, 2);
        dueName(2, "cdab");
        w.call(1, 2);
        dueName(2, "cdb");
        w.call(1, 2);
        w.way(1);
        w.call(1, 2);
        dueName(2, "db");
        begin(17, "1zezozu 1y");
        w.way(2);
        String[] left = {"zzozu", "zzzu", "zzz", "zz", "z", ""};
        for (String name : left) {
            w.call(1, 0);
            dueName(0, name);
        }
    }

    private static void mendings() {
        begin(18, TOWN);
        due("mend(2, 0, 'a')", w.mend(2, 0, 'a'), 3);
        due("mend(2, 0, 'z')", w.mend(2, 0, 'z'), 1);
        dueName(0, "annaaz");
        due("mend(2, 0, 'b') of six", w.mend(2, 0, 'b'), STATE);
        due("mend(2, 3, 'b') of a dead one", w.mend(2, 3, 'b'), STATE);
        w.price(0);
        due("mend(2, 2, 'u') of oneself", w.mend(2, 2, 'u'), 0);
        dueName(2, "belau");
        due("count(8)", w.count(8), 4);
        due("count(1)", w.count(1), 3);
        dueFinding("mend(0, 3, 'a')", w.mend(0, 3, 'a'), 3);
        due("mend(2, 1, 96)", w.mend(2, 1, 96), BAD);
        due("mend(2, 1, 123)", w.mend(2, 1, 123), BAD);
        due("mend(0, 1, 123)", w.mend(0, 1, 123), BAD);
        due("mend(7, 1, 97)", w.mend(7, 1, 97), BAD);
        due("mend(2, -1, 97)", w.mend(2, -1, 97), BAD);
        begin(18, "1a 3b");
        w.call(1, 0);
        due("mend(1, 0, 'e') of a worn out name", w.mend(1, 0, 'e'), 3);
        dueName(0, "e");
    }

    private static void undoing() {
        begin(19, TOWN);
        long before = w.digest();
        w.call(2, 4);
        long one = w.digest();
        w.way(1);
        w.call(2, 4);
        w.price(7);
        w.mend(2, 4, 'e');
        w.call(0, 4);
        due("count(8)", w.count(8), 7);
        due("undo(5)", w.undo(5), BAD);
        due("undo(-1)", w.undo(-1), BAD);
        due("undo(4)", w.undo(4), 0);
        due("undo(3)", w.undo(3), 1);
        dueName(4, "arlae");
        w.way(2);
        w.price(2);
        due("undo(2)", w.undo(2), 1);
        dueName(4, "arla");
        due("undo(1)", w.undo(1), 1);
        dueName(4, "carla");
        w.way(0);
        w.price(3);
        due("digest()", w.digest(), one);
        due("undo(0)", w.undo(0), 1);
        due("digest()", w.digest(), before);
        due("undo(0)", w.undo(0), 0);
    }

    private static void keeping() {
        begin(22, TOWN);
        w.call(2, 0);
        due("keep(1)", w.keep(1), 1);
        w.call(2, 0);
        due("keep(2)", w.keep(2), 2);
        due("keep(3)", w.keep(3), BAD);
        due("keep(-1)", w.keep(-1), BAD);
        due("count(5)", w.count(5), 2);
        promise = 23;
        w.way(1);
        lay(4, 5);
        due("on(1)", w.on(1), 1);
        dueName(0, "ann");
        due("count(5)", w.count(5), 2);
        due("way(1)", w.way(1), 1);
        dueRow(4, 5);
        due("undo(0) of what was kept", w.undo(0), 1);
        dueName(0, "anna");
        due("on(2)", w.on(2), 2);
        dueName(0, "an");
        due("undo(1)", w.undo(1), 1);
        dueName(0, "ann");
        dueFinding("on(0)", w.on(0), 1);
        due("on(3)", w.on(3), BAD);
    }

    private static void lasting() {
        begin(24, TOWN);
        due("lasts(0)", w.lasts(0), 4);
        due("lasts(4)", w.lasts(4), 10);
        w.call(2, 4);
        due("lasts(4)", w.lasts(4), 9);
        dueFinding("lasts(3)", w.lasts(3), 4);
        due("lasts(7)", w.lasts(7), BAD);
        begin(24, "5a 1b");
        w.call(1, 0);
        w.call(1, 0);
        due("lasts(0) without letters", w.lasts(0), 0);
        begin(24, "5abcdef");
        due("lasts(0)", w.lasts(0), 12);
    }

    private static void becoming() {
        begin(25, "5anna 1an 4an 1nna 1ana 1xyz 1xyz");
        due("becomes(0, 1)", w.becomes(0, 1), 4);
        due("becomes(0, 2): a dead one's", w.becomes(0, 2), 4);
        due("becomes(1, 0)", w.becomes(1, 0), NONE);
        due("becomes(5, 6)", w.becomes(5, 6), 0);
        due("becomes(0, 3)", w.becomes(0, 3), NONE);
        w.way(1);
        due("becomes(0, 3)", w.becomes(0, 3), 2);
        dueFinding("becomes(2, 1)", w.becomes(2, 1), 4);
        due("becomes(2, 2)", w.becomes(2, 2), BAD);
        due("becomes(0, 7)", w.becomes(0, 7), BAD);
        begin(25, "1ab 1b");
        w.call(0, 1);
        due("becomes(0, 1) without letters", w.becomes(0, 1), 2);
    }

    private static void unlikeNames() {
        begin(26, TOWN);
        dueAsked("unlike(0)", w.unlike(0), 6, 0);
        dueAsked("unlike(1)", w.unlike(1), 5, 0);
        dueAsked("unlike(3)", w.unlike(3), 4, 1);
        dueAsked("unlike(12)", w.unlike(12), 0, 6);
        due("unlike(13)", w.unlike(13), BAD);
        due("unlike(-1)", w.unlike(-1), BAD);
        promise = 27;
        due("first()", w.first(), 1);
        w.way(1);
        due("first()", w.first(), 3);
        begin(27, "1ab 4ab 1cd");
        due("first()", w.first(), NONE);
        begin(27, "1ab 1ab");
        due("first()", w.first(), 0);
        begin(27, "5abcdef 1abcdea");
        due("first()", w.first(), NONE);
        begin(27, "5abcdef 5abcdea");
        due("first()", w.first(), 2);
    }

    private static void dueNameLasts(String name, int want) {
        write(1, name);
        due("name() of " + name, w.name(1), want);
    }

    private static void namesAmongOthers() {
        begin(28, TOWN);
        dueNameLasts("annab", 1);
        dueNameLasts("anna", 0);
        dueNameLasts("an", 2);
        dueNameLasts("zzzzzz", 6);
        w.way(1);
        dueNameLasts("xann", 1);
        write(1, "");
        dueFinding("name(1) of none", w.name(1), 5);
        write(1, "ab1defg");
        dueFinding("name(1) of seven", w.name(1), 5);
        write(1, "ab c");
        dueFinding("name(1) with a blank", w.name(1), 3);
        write(1, "1ab");
        dueFinding("name(1) with a sign", w.name(1), 3);
        dueFinding("name(2)", w.name(2), 1);
        due("name(4)", w.name(4), BAD);
        begin(28, "4ab");
        dueNameLasts("ab", 2);
        promise = 29;
        begin(29, TOWN);
        dueAsked("best(0)", w.best(0), 'a', 2);
        dueAsked("best(1)", w.best(1), 'b', 4);
        dueAsked("best(4): as name(), hard or not", w.best(4), 'a', 6);
        due("best(3)", w.best(3), STATE);
        due("best(7)", w.best(7), BAD);
        w.mend(2, 4, 'a');
        due("best(4)", w.best(4), STATE);
    }

    private static void judging() {
        begin(30, TOWN);
        lay(0, 200, 206, 201, 402);
        long before = w.digest();
        dueAsked("judge(0)", w.judge(0), 4, 2);
        due("digest()", w.digest(), before);
        lay(0, 200, 201, 203, 200);
        dueAsked("judge(0)", w.judge(0), 2, 1);
        w.row(0, 0);
        dueAsked("judge(0)", w.judge(0), 0, 0);
        for (int v : new int[] {707, 7, -1, 202, 100 * 7, LOW, HIGH, 10000}) {
            lay(0, 200, v);
            dueFinding("judge(0) with " + v, w.judge(0), 3);
            lay(0, v, 200);
            dueFinding("judge(0) with " + v + " ahead", w.judge(0), 3);
        }
        lay(0, 200, 707);
        lay(0, 200);
        dueAsked("judge(0) of a row that was longer", w.judge(0), 1, 0);
        dueFinding("judge(1)", w.judge(1), 1);
        due("judge(6)", w.judge(6), BAD);
    }

    private static void ordering() {
        begin(31, TOWN);
        lay(0, 200, 206, 201, 402);
        due("order(0, 1)", w.order(0, 1), 0);
        dueRow(1, 2, 0, 1, 3);
        lay(0, 203);
        due("order(0, 1) of a dead one", w.order(0, 1), NONE);
        dueRow(1, 2, 0, 1, 3);
        w.row(0, 0);
        due("order(0, 1) of none", w.order(0, 1), 0);
        dueRow(1);
        w.row(0, 7);
        dueFinding("order(0, 1)", w.order(0, 1), 5);
        w.row(0, 6);
        dueFinding("order(0, 1)", w.order(0, 1), 3);
        dueFinding("order(2, 1)", w.order(2, 1), 1);
        due("order(6, 1)", w.order(6, 1), BAD);
        due("order(0, -1)", w.order(0, -1), BAD);
        lay(0, 401, 402);
        due("order(0, 0) into itself", w.order(0, 0), 0);
        dueRow(0, 0, 1);
        begin(31, "1a 1b 1c");
        lay(0, 201, 201);
        due("order(0, 1): worn out", w.order(0, 1), NONE);
    }

    private static void callingBy() {
        begin(32, TOWN);
        lay(2, 0, 6, 1);
        due("callers(2, 3)", w.callers(2, 3), 0);
        dueRow(3, 1, 0, 6);
        lay(2, 3);
        due("callers(2, 3) of a dead one", w.callers(2, 3), NONE);
        dueRow(3, 1, 0, 6);
        w.row(2, 0);
        due("callers(2, 3) of none", w.callers(2, 3), 0);
        dueRow(3);
        w.row(2, 6);
        w.lay(2, 0, 9);
        dueFinding("callers(2, 3)", w.callers(2, 3), 5);
        lay(2, 7);
        dueFinding("callers(2, 3)", w.callers(2, 3), 3);
        lay(2, -1);
        dueFinding("callers(2, 3)", w.callers(2, 3), 3);
        dueFinding("callers(4, 3)", w.callers(4, 3), 1);
        due("callers(6, 3)", w.callers(6, 3), BAD);
        due("callers(2, 6)", w.callers(2, 6), BAD);
        begin(32, "1ab 1ab 1ab");
        lay(2, 0, 0);
        due("callers(2, 3) with mistakes", w.callers(2, 3), 1);
        dueRow(3, 1, 2);
    }

    private static void sparing() {
        begin(33, TOWN);
        lay(0, 200, 206, 201, 402);
        dueAsked("spare(0)", w.spare(0), 2, 1);
        dueName(1, "ann");
        lay(0, 200);
        w.person(0, 1);
        dueAsked("spare(0) as it is", w.spare(0), 0, 0);
        lay(0, 203);
        due("spare(0)", w.spare(0), NONE);
        due("asked() stays", w.asked(), 0);
        lay(0, 200, 707);
        dueFinding("spare(0)", w.spare(0), 3);
        dueFinding("spare(1)", w.spare(1), 1);
        due("spare(6)", w.spare(6), BAD);
        begin(33, "4b 1b 1ab 3ab");
        lay(0, 301, 301);
        dueAsked("spare(0): too often called", w.spare(0), 1, 1);
        lay(0, 301, 301, 301, 301, 301, 301, 301);
        due("spare(0): more than six", w.spare(0), NONE);
        lay(0, 302);
        dueAsked("spare(0) as it is", w.spare(0), 0, 0);
        lay(0, 103);
        dueAsked("spare(0): the first of two", w.spare(0), 1, 2);
        begin(33, "1b 1b 3z");
        lay(0, 200);
        dueAsked("spare(0): one 0 is the first", w.spare(0), 1, 0);
        begin(33, "1a 1z");
        w.call(1, 0);
        lay(0, 100, 100, 100, 100, 100, 100);
        dueAsked("spare(0): six for one without letters", w.spare(0), 6, 0);
    }

    private static void dueWhose(String name, int want, int asked) {
        write(1, name);
        dueAsked("whose() of " + name, w.whose(1), want, asked);
    }

    private static void whoseNames() {
        begin(34, TOWN);
        dueWhose("an", 67, 1);
        dueWhose("c", 48, 3);
        dueWhose("ann", 67, 0);
        dueWhose("carl", 16, 2);
        dueWhose("x", 0, NONE);
        w.call(2, 4);
        dueWhose("carl", 16, 1);
        w.way(2);
        dueWhose("nn", 67, 1);
        write(1, "");
        dueFinding("whose(1)", w.whose(1), 5);
        write(1, "abcdefg");
        dueFinding("whose(1)", w.whose(1), 5);
        write(1, "aB");
        dueFinding("whose(1)", w.whose(1), 3);
        dueFinding("whose(2)", w.whose(2), 1);
        due("whose(-1)", w.whose(-1), BAD);
    }

    private static void holding() {
        begin(35, TOWN);
        lay(0, 16, 16, 16);
        dueAsked("held(2, 0)", w.held(2, 0), 1, 4 * 49 + 4 * 7 + 4);
        lay(0, 1, 65);
        dueAsked("held(2, 0)", w.held(2, 0), 0, NONE);
        w.row(0, 0);
        dueAsked("held(2, 0) of none", w.held(2, 0), 1, 0);
        lay(0, 128);
        dueFinding("held(2, 0)", w.held(2, 0), 3);
        lay(0, -1);
        dueFinding("held(2, 0)", w.held(2, 0), 3);
        lay(0, 1, 1, 1, 1, 999);
        dueFinding("held(2, 0)", w.held(2, 0), 5);
        dueFinding("held(2, 1)", w.held(2, 1), 1);
        due("held(3, 1): STATE ahead", w.held(3, 1), STATE);
        due("held(7, 0)", w.held(7, 0), BAD);
        due("held(2, 6)", w.held(2, 6), BAD);
        promise = 36;
        due("could(3, 1, 0)", w.could(3, 1, 0), STATE);
        due("could(3, 1, 4)", w.could(3, 1, 4), BAD);
        due("could(7, 0, 0)", w.could(7, 0, 0), BAD);
        due("could(2, 6, 0)", w.could(2, 6, 0), BAD);
        due("could(2, 1, -1)", w.could(2, 1, -1), BAD);
        dueFinding("could(2, 1, 0)", w.could(2, 1, 0), 1);
        dueFinding("could(2, 0, 3)", w.could(2, 0, 3), 5);
        lay(0, 1, 128);
        dueFinding("could(2, 0, 3)", w.could(2, 0, 3), 3);
        lay(0, 1, 1);
        due("could(2, 0, 2)", w.could(2, 0, 2), BAD);
        due("could(2, 0, 1)", w.could(2, 0, 1), 0);
        begin(35, "1ab 1ab 1c 1ab");
        lay(0, 11, 11, 4);
        dueAsked("held(2, 0)", w.held(2, 0), 0, NONE);
        lay(0, 11, 11);
        dueAsked("held(2, 0)", w.held(2, 0), 9, 0);
        lay(0, 10, 8);
        dueAsked("held(0, 0)", w.held(0, 0), 0, NONE);
        lay(0, 10, 4, 10);
        dueAsked("held(0, 0)", w.held(0, 0), 4, 1 * 49 + 2 * 7 + 1);
        due("could(0, 0, 0)", w.could(0, 0, 0), 10);
        due("could(0, 0, 1)", w.could(0, 0, 1), 4);
        due("could(0, 0, 2)", w.could(0, 0, 2), 10);
        due("asked() stays with could()", w.asked(), 64);
        lay(0, 16);
        dueFinding("held(0, 0): a set of people that are not", w.held(0, 0), 3);
    }

    private static void dueCrowd(String sound, int want, int asked) {
        write(1, sound);
        dueAsked("crowd() of " + sound, w.crowd(1), want, asked);
    }

    private static void crowds() {
        begin(37, TOWN);
        dueCrowd("an", 67, 0);
        dueCrowd("ann", 67, 2);
        dueCrowd("anna", 1, 1);
        dueCrowd("annabe", 0, 0);
        write(1, "");
        dueFinding("crowd(1)", w.crowd(1), 5);
        write(1, "1234567");
        dueFinding("crowd(1)", w.crowd(1), 5);
        write(1, "a1");
        dueFinding("crowd(1)", w.crowd(1), 3);
        dueFinding("crowd(2)", w.crowd(2), 1);
        due("crowd(4)", w.crowd(4), BAD);
        promise = 38;
        due("shortest(0)", w.shortest(0), 4);
        due("shortest(1)", w.shortest(1), NONE);
        due("shortest(2)", w.shortest(2), 1);
        due("shortest(4)", w.shortest(4), 2);
        due("shortest(3)", w.shortest(3), STATE);
        due("shortest(-1)", w.shortest(-1), BAD);
        begin(38, "1a 1b");
        due("shortest(0) of two", w.shortest(0), 1);
        w.call(1, 0);
        due("shortest(0) without letters", w.shortest(0), NONE);
    }

    private static void daysByLots() {
        begin(39, "1aaa 1bbb");
        // 48271, 182605794, 1291394886, 1914720637, 2078669041, 407355683: who calls is
        // 1, 0, 0, 1, 1, 1, who is called 0, 1, 1, 1, 1, 0
        due("days(6, 1)", w.days(6, 1), 4);
        dueName(0, "a");
        dueName(1, "b");
        due("count(1)", w.count(1), 4);
        dueAsked("person(1, 4)", w.person(1, 4), 1, 2);
        due("undo(0)", w.undo(0), 4);
        for (int i = 0; i < 3; i++) w.call(0, 1);
        due("days(3, 1)", w.days(3, 1), 1);
        w.undo(3);
        due("days(58, 1)", w.days(58, 1), FULL);
        due("days(57, 1)", w.days(57, 1), 3);
        due("days(0, 1)", w.days(0, 1), BAD);
        due("days(61, 1)", w.days(61, 1), BAD);
        due("days(1, 0)", w.days(1, 0), BAD);
        due("days(1, HIGH)", w.days(1, HIGH), BAD);
        due("days(1, HIGH - 1)", w.days(1, HIGH - 1), 0);
        begin(39, "1aaa 1bbb");
        due("days(1, 1)", w.days(1, 1), 1);
        w.undo(0);
        due("days(60, 1)", w.days(60, 1), 6);
        begin(39, "1aaa");
        due("days(1, 1) of one", w.days(1, 1), STATE);
    }

    private static void asking() {
        begin(40, TOWN);
        w.person(4, 1);
        due("asked()", w.asked(), 5);
        w.person(9, 1);
        w.at(3, 0);
        w.letter(0, 0);
        w.call(2, 0);
        w.mend(2, 0, 'a');
        w.alike(0);
        w.lasts(0);
        w.count(0);
        w.first();
        due("asked() stays", w.asked(), 5);
    }

    private static void parts() {
        begin(41, TOWN);
        due("upper()", w.upper(), 0);
        due("lower()", w.lower(), 1);
        w.call(2, 4);
        w.call(2, 4);
        due("upper() without mistakes", w.upper(), 0);
        due("lower() without mistakes", w.lower(), 1);
        w.call(2, 0);
        w.call(2, 0);
        due("upper()", w.upper(), 1);
        due("lower()", w.lower(), 5);
        w.call(2, 1);
        due("upper()", w.upper(), 2);
        promise = 42;
        due("lower()", w.lower(), 7);
        w.call(5, 0);
        due("upper() of four of ten", w.upper(), 2);
        due("lower() of four of ten", w.lower(), 5);
        w.undo(0);
        due("lower() when all is undone", w.lower(), 1);
    }

    private static void counting() {
        begin(43, TOWN);
        w.row(3, 0);
        w.keep(1);
        w.mend(2, 1, 'a');
        int[] want = {7, 1, 28, 2, 1, 1, 1, 1, 3};
        for (int what = 0; what < want.length; what++) due("count(" + what + ")", w.count(what), want[what]);
        due("count(9)", w.count(9), BAD);
        due("count(-1)", w.count(-1), BAD);
        for (int i = 0; i < 4; i++) w.call(2, 0);
        due("count(4): a dead one, two without letters", w.count(4), 3);
    }

    private static void findingsTold() {
        begin(44, TOWN);
        due("finding()", w.finding(), 0);
        w.at(0, 0);
        w.letter(0, 9);
        w.letter(0, 9);
        due("finding()", w.finding(), 2);
        w.letter(9, 9);
        w.call(0, 1);
        due("finding() stays", w.finding(), 2);
        promise = 45;
        due("findings(1)", w.findings(1), 1);
        due("findings(2)", w.findings(2), 2);
        due("findings(3)", w.findings(3), 0);
        w.row(0, -1);
        due("findings(5)", w.findings(5), 1);
        due("findings(0)", w.findings(0), BAD);
        due("findings(6)", w.findings(6), BAD);
        w.text(0, 0);
        w.town(0);
        due("findings(2) in a new town", w.findings(2), 2);
    }

    private static void digests() {
        promise = 46;
        w = new WornNames();
        long h = 17;
        for (int v : new int[] {0, 0, 0, 0, 0, 0, 0, 0, 0, 0, 3, -1, -1, -1, -1, -1, -1, -1, -1, -1, -1, -1, -1, -1}) h = 31 * h + v;
        due("digest() of a new object", w.digest(), h);
        begin(46, "1ab 5c");
        w.call(0, 1);
        w.way(2);
        w.price(8);
        w.keep(1);
        lay(5, -4, 9);
        w.put(0, 5, 200);
        h = 17;
        for (int v : new int[] {2, 1, 3, 0, 0, 1, 1, 1, 0, 2, 8, 0, 2, 0, 0, 1, 'a', 'b', 0, 4, 1, 1, 0, 0, 'c', 1, -1, 1, -1,
            -1, -1, -1, -1, -1, 2, -4, 9, 6, '1', 'a', 'b', ' ', '5', -56, -1, -1, -1}) h = 31 * h + v;
        due("digest()", w.digest(), h);
        w.letter(0, 9);
        w.person(0, 1);
        due("digest() after what is told", w.digest(), h);
        begin(46, "2a");
        w.keep(0);
        h = 17;
        for (int v : new int[] {1, 0, 1, 1, 0, 1, 0, 1, 0, 0, 3, 1, 1, 0, 0, 0, 'a', 0, 0, -1, -1,
            -1, -1, -1, -1, -1, -1, 2, '2', 'a', -1, -1, -1}) h = 31 * h + v;
        due("digest() of a mother", w.digest(), h);
    }
}
