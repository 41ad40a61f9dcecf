/**
 * Names worn through by use. The document's promises are told beside the
 * methods by their numbers; README.md says how the parts hang together.
 */
public final class WornNames {
    public static final int BAD = -1, FULL = -2, FINDING = -3, STATE = -4, SPENT = -6, NONE = -9;

    private static final int NOTHING = 1, BEYOND = 2, UNLIKE = 3, NOUGHT = 4, SIZE = 5;
    private static final int MOTHER = 1, SMITH = 2, DEAD = 3, HARD = 4, NURSE = 5;
    private static final int MOST_PEOPLE = 7, MOST_LETTERS = 6, MOST_DEEDS = 60;
    /** A HARD one's NAME of six LETTERS is worn through by then, so every NAME is. */
    private static final int MOST_TIMES = 12;
    private static final int ROWS = 6, ROW_ROOM = 40, TEXTS = 4, TEXT_ROOM = 80, KEPT = 3;
    private static final int MOST_ORDERED = 6, MOST_CALLED = 5, MOST_HELD = 4;
    private static final int LAST_WAY = 2, MOST_PRICE = 99, FIRST_PRICE = 3;
    private static final int BLANK = 32, FIRST_SIGN = 49, BEFORE_A = 96, ALPHABET = 26;
    private static final int PERSON_FACTS = 5, COUNTS = 9, FINDINGS = 5;
    private static final long LOT_FACTOR = 48271L, LOT_MODULUS = 2147483647L;

    private final Row[] rows = new Row[ROWS];
    private final Row[] texts = new Row[TEXTS];
    private final Town town = new Town();
    private final Folk reading = new Folk();
    private final Search search = new Search();
    private final int[] found = new int[FINDINGS + 1];
    private int way = 0;
    private int vowelPrice = FIRST_PRICE;
    private int told = 0;
    private int latest = 0;

    /** Promise 1. */
    public WornNames() {
        for (int r = 0; r < ROWS; r++) {
            rows[r] = new Row(ROW_ROOM);
        }
        for (int t = 0; t < TEXTS; t++) {
            texts[t] = new Row(TEXT_ROOM);
        }
    }

    // ---- 1 rows, texts, towns

    /** Promise 2. */
    public int row(int r, int n) {
        if (!isRow(r) || n > ROW_ROOM) {
            return BAD;
        }
        if (n < 0) {
            return find(SIZE);
        }
        rows[r].renew(n, 0);
        return n;
    }

    /** Promise 3. */
    public int lay(int r, int i, int v) {
        if (!isRow(r)) {
            return BAD;
        }
        int finding = placeFinding(rows[r], i);
        if (finding != 0) {
            return find(finding);
        }
        told = rows[r].places[i];
        rows[r].places[i] = v;
        return 1;
    }

    /** Promise 4. */
    public int at(int r, int i) {
        if (!isRow(r)) {
            return BAD;
        }
        int finding = placeFinding(rows[r], i);
        if (finding != 0) {
            return find(finding);
        }
        told = rows[r].places[i];
        return 1;
    }

    /** Promise 5. */
    public int tear(int r) {
        if (!isRow(r)) {
            return BAD;
        }
        if (!rows[r].there) {
            return find(NOTHING);
        }
        rows[r].there = false;
        return 1;
    }

    /** Promise 6. */
    public int copy(int r, int i, int to, int j, int n) {
        if (!isRow(r) || !isRow(to)) {
            return BAD;
        }
        if (n < 0) {
            return find(SIZE);
        }
        if (!rows[r].there || !rows[to].there) {
            return find(NOTHING);
        }
        if (!rows[r].hasRun(i, n) || !rows[to].hasRun(j, n)) {
            return find(BEYOND);
        }
        System.arraycopy(rows[r].places, i, rows[to].places, j, n);
        return 1;
    }

    /** Promise 7. */
    public int mean(int r) {
        if (!isRow(r)) {
            return BAD;
        }
        if (!rows[r].there) {
            return find(NOTHING);
        }
        if (rows[r].size < 1) {
            return find(NOUGHT);
        }
        told = (int) (rows[r].sum() / rows[r].size);
        return 1;
    }

    /** Promise 8. */
    public int text(int t, int n) {
        if (!isText(t) || n > TEXT_ROOM) {
            return BAD;
        }
        if (n < 0) {
            return find(SIZE);
        }
        texts[t].renew(n, BLANK);
        return n;
    }

    /** Promise 9. */
    public int put(int t, int i, int v) {
        if (!isText(t)) {
            return BAD;
        }
        int finding = placeFinding(texts[t], i);
        if (finding != 0) {
            return find(finding);
        }
        int was = texts[t].places[i];
        texts[t].places[i] = (byte) v;
        return 1000 + was;
    }

    /** Promise 10. */
    public int fault(int t) {
        if (!isText(t)) {
            return BAD;
        }
        if (!texts[t].there) {
            return find(NOTHING);
        }
        return reading.read(texts[t]);
    }

    /** Promise 11. */
    public int town(int t) {
        if (!isText(t)) {
            return BAD;
        }
        if (!texts[t].there) {
            return find(NOTHING);
        }
        if (reading.read(texts[t]) != NONE) {
            return STATE;
        }
        town.found(reading);
        return town.now.size;
    }

    /** Promise 12. */
    public int person(int x, int what) {
        if (!isPerson(x) || what < 0 || what >= PERSON_FACTS) {
            return BAD;
        }
        told = town.fact(x, what);
        return 1;
    }

    /** Promise 13. */
    public int letter(int x, int i) {
        if (!isPerson(x) || i < 0) {
            return BAD;
        }
        int spelling = town.now.names[x];
        if (i >= Name.size(spelling)) {
            return find(BEYOND);
        }
        return BEFORE_A + Name.letterAt(spelling, i);
    }

    /** Promise 14. */
    public int mark(int x, int kind) {
        if (!isPerson(x) || kind < MOTHER || kind > NURSE) {
            return BAD;
        }
        if (!town.now.is(x, kind)) {
            return find(UNLIKE);
        }
        switch (kind) {
            case SMITH:
                return town.paid;
            case HARD:
                return 2 - town.now.dues[x];
            case NURSE:
                return Integer.bitCount(town.now.comers(x, 0));
            default:
                return Integer.bitCount(town.now.named(town.now.names[x]) & ~(1 << x));
        }
    }

    /** Promise 15. */
    public int way(int v) {
        if (v < 0 || v > LAST_WAY) {
            return BAD;
        }
        int was = way;
        way = v;
        return was;
    }

    /** Promise 16. */
    public int price(int v) {
        if (v < 0 || v > MOST_PRICE) {
            return BAD;
        }
        int was = vowelPrice;
        vowelPrice = v;
        return was;
    }

    // ---- 2 calls

    /** Promise 17. */
    public int call(int by, int x) {
        if (!isPair(by, x)) {
            return BAD;
        }
        if (!town.now.canCall(by, x)) {
            return STATE;
        }
        if (!town.deeds.hasRoomFor(1)) {
            return FULL;
        }
        return town.callOut(by, x, way);
    }

    /** Promise 18. */
    public int mend(int smith, int x, int letter) {
        if (!isPerson(smith) || !isPerson(x) || !Name.isLetter(letter)) {
            return BAD;
        }
        if (!town.now.is(smith, SMITH)) {
            return find(UNLIKE);
        }
        if (!town.now.canGrow(x, 1)) {
            return STATE;
        }
        if (!town.deeds.hasRoomFor(1)) {
            return FULL;
        }
        int number = letter - BEFORE_A;
        int cost = Name.isVowel(number) ? vowelPrice : 1;
        town.mendName(smith, x, number, cost);
        return cost;
    }

    /** Promise 19. */
    public int undo(int n) {
        if (n < 0 || n > town.deeds.size) {
            return BAD;
        }
        int undone = town.deeds.size - n;
        town.goBack(n);
        return undone;
    }

    /** Promise 20. */
    public int comes(int by, int x) {
        if (!isPair(by, x)) {
            return BAD;
        }
        int bits = town.now.comers(by, x);
        return bits == 0 ? STATE : bits;
    }

    /** Promise 21. */
    public int alike(int x) {
        if (!isPerson(x)) {
            return BAD;
        }
        return town.now.named(town.now.names[x]) | 1 << x;
    }

    /** Promise 22. */
    public int keep(int k) {
        if (!isKeepingPlace(k)) {
            return BAD;
        }
        if (town.now.size == 0) {
            return STATE;
        }
        town.kept[k].take(town.deeds);
        town.kept[k].there = true;
        return town.deeds.size;
    }

    /** Promise 23. */
    public int on(int k) {
        if (!isKeepingPlace(k)) {
            return BAD;
        }
        if (!town.kept[k].there) {
            return find(NOTHING);
        }
        town.deeds.take(town.kept[k]);
        town.goBack(town.deeds.size);
        return town.deeds.size;
    }

    // ---- 3 how names wear (aside)

    /** Promise 24. */
    public int lasts(int x) {
        if (!isPerson(x)) {
            return BAD;
        }
        if (!town.now.lives(x)) {
            return find(NOUGHT);
        }
        return town.now.timesTill(x, 0, way);
    }

    /** Promise 25. */
    public int becomes(int x, int y) {
        if (!isPair(x, y)) {
            return BAD;
        }
        if (!town.now.lives(x)) {
            return find(NOUGHT);
        }
        return town.now.timesTill(x, town.now.names[y], way);
    }

    /** Promise 26. */
    public int unlike(int n) {
        if (n < 0 || n > MOST_TIMES) {
            return BAD;
        }
        Folk later = search.from(town.now, way);
        later.wearAll(n, way);
        told = later.nameless();
        return later.unlikeNames();
    }

    /** Promise 27. */
    public int first() {
        Folk later = search.from(town.now, way);
        for (int n = 0; n <= MOST_TIMES; n++) {
            if (later.unlikeNames() + later.nameless() < later.living()) {
                return n;
            }
            later.wearAll(1, way);
        }
        return NONE;
    }

    /** Promise 28. */
    public int name(int t) {
        if (!isText(t)) {
            return BAD;
        }
        int finding = nameFinding(texts[t]);
        if (finding != 0) {
            return find(finding);
        }
        return town.now.callsTillTaken(texts[t].spelling(), 0, way);
    }

    /** Promise 29. */
    public int best(int x) {
        if (!isPerson(x)) {
            return BAD;
        }
        if (!town.now.canGrow(x, 1)) {
            return STATE;
        }
        int bestLetter = 1;
        int longest = -1;
        for (int letter = 1; letter <= ALPHABET; letter++) {
            int lasting = town.now.callsTillTaken(Name.with(town.now.names[x], letter), 1 << x, way);
            if (lasting > longest) {
                longest = lasting;
                bestLetter = letter;
            }
        }
        told = longest;
        return BEFORE_A + bestLetter;
    }

    // ---- 4 rows of calls

    /** Promise 30. */
    public int judge(int r) {
        if (!isRow(r)) {
            return BAD;
        }
        int finding = callsFinding(rows[r], ROW_ROOM);
        if (finding != 0) {
            return find(finding);
        }
        search.from(town.now, way);
        int could = search.judgeCalls(rows[r]);
        told = search.mistakes;
        return could;
    }

    /** Promise 31. */
    public int order(int r, int to) {
        if (!isRow(r) || !isRow(to)) {
            return BAD;
        }
        int finding = callsFinding(rows[r], MOST_ORDERED);
        if (finding != 0) {
            return find(finding);
        }
        search.from(town.now, way);
        search.seekOrder(rows[r], 0, 0, 0);
        return fewestInto(to, rows[r].size);
    }

    /** Promise 32. */
    public int callers(int r, int to) {
        if (!isRow(r) || !isRow(to)) {
            return BAD;
        }
        int finding = numbersFinding(rows[r], MOST_CALLED, town.now.size);
        if (finding != 0) {
            return find(finding);
        }
        search.from(town.now, way);
        search.seekCallers(rows[r], 0, 0);
        return fewestInto(to, rows[r].size);
    }

    /** Promise 33. */
    public int spare(int r) {
        if (!isRow(r)) {
            return BAD;
        }
        int finding = callsFinding(rows[r], ROW_ROOM);
        if (finding != 0) {
            return find(finding);
        }
        if (goesWell(rows[r], 0, 0)) {
            told = 0;
            return 0;
        }
        for (int letters = 1; letters <= MOST_LETTERS; letters++) {
            for (int x = 0; x < town.now.size; x++) {
                if (town.now.canGrow(x, letters) && goesWell(rows[r], x, letters)) {
                    told = x;
                    return letters;
                }
            }
        }
        return NONE;
    }

    // ---- 5 who was it

    /** Promise 34. */
    public int whose(int t) {
        if (!isText(t)) {
            return BAD;
        }
        int finding = nameFinding(texts[t]);
        if (finding != 0) {
            return find(finding);
        }
        int bits = 0;
        int fewest = NONE;
        for (int x = 0; x < town.now.size; x++) {
            int times = town.now.lives(x) ? town.now.timesTill(x, texts[t].spelling(), way) : NONE;
            if (times != NONE) {
                bits |= 1 << x;
                fewest = fewest == NONE ? times : Math.min(fewest, times);
            }
        }
        told = fewest;
        return bits;
    }

    /** Promise 35. */
    public int held(int by, int r) {
        if (!isPerson(by) || !isRow(r)) {
            return BAD;
        }
        if (!town.now.lives(by)) {
            return STATE;
        }
        int finding = numbersFinding(rows[r], MOST_HELD, 1 << town.now.size);
        if (finding != 0) {
            return find(finding);
        }
        search.from(town.now, way);
        search.seekCalled(by, rows[r], 0);
        told = search.firstHeld;
        return search.heldRows;
    }

    /** Promise 36. */
    public int could(int by, int r, int i) {
        if (!isPerson(by) || !isRow(r) || i < 0 || i >= MOST_HELD) {
            return BAD;
        }
        if (!town.now.lives(by)) {
            return STATE;
        }
        int finding = numbersFinding(rows[r], MOST_HELD, 1 << town.now.size);
        if (finding != 0) {
            return find(finding);
        }
        if (!rows[r].has(i)) {
            return BAD;
        }
        search.from(town.now, way);
        search.seekCalled(by, rows[r], 0);
        return search.calledAt[i];
    }

    /** Promise 37. */
    public int crowd(int t) {
        if (!isText(t)) {
            return BAD;
        }
        int finding = nameFinding(texts[t]);
        if (finding != 0) {
            return find(finding);
        }
        int sound = texts[t].spelling();
        told = town.now.named(sound);
        return town.now.beginning(sound);
    }

    /** Promise 38. */
    public int shortest(int x) {
        if (!isPerson(x)) {
            return BAD;
        }
        if (!town.now.lives(x)) {
            return STATE;
        }
        int spelling = town.now.names[x];
        for (int n = 1; n <= Name.size(spelling); n++) {
            if ((town.now.beginning(Name.start(spelling, n)) & ~(1 << x)) == 0) {
                return n;
            }
        }
        return NONE;
    }

    // ---- 6 days

    /** Promise 39. */
    public int days(int n, int seed) {
        if (n < 1 || n > MOST_DEEDS || seed < 1 || seed >= LOT_MODULUS) {
            return BAD;
        }
        if (town.now.size < 2) {
            return STATE;
        }
        if (!town.deeds.hasRoomFor(n)) {
            return FULL;
        }
        int calls = 0;
        long lot = seed;
        for (int i = 0; i < n; i++) {
            lot = LOT_FACTOR * lot % LOT_MODULUS;
            int by = (int) (lot % town.now.size);
            int x = (int) (lot / 64 % town.now.size);
            if (town.now.canCall(by, x)) {
                town.callOut(by, x, way);
                calls++;
            }
        }
        return calls;
    }

    // ---- 7 what is told

    /** Promise 40. */
    public int asked() {
        return told;
    }

    /** Promise 41. */
    public long upper() {
        int all = town.sum(town.came);
        return all == 0 ? 0 : town.sum(town.mistaken) / commonPart(town.sum(town.mistaken), all);
    }

    /** Promise 42. */
    public long lower() {
        int all = town.sum(town.came);
        return all == 0 ? 1 : all / commonPart(town.sum(town.mistaken), all);
    }

    /** Promise 43. */
    public int count(int what) {
        switch (what) {
            case 0:
                return town.now.size;
            case 1:
                return town.deeds.size;
            case 2:
                return town.now.letters();
            case 3:
                return town.now.mothers();
            case 4:
                return town.now.size - town.now.living() + town.now.nameless();
            case 5:
                return town.keptTowns();
            case 6:
                return thereAmong(rows);
            case 7:
                return thereAmong(texts);
            case 8:
                return town.paid;
            default:
                return BAD;
        }
    }

    /** Promise 44. */
    public int finding() {
        return latest;
    }

    /** Promise 45. */
    public int findings(int f) {
        return f < NOTHING || f > FINDINGS ? BAD : found[f];
    }

    /** Promise 46. */
    public long digest() {
        long h = 17;
        for (int what = 0; what < COUNTS; what++) {
            h = 31 * h + count(what);
        }
        h = 31 * h + way;
        h = 31 * h + vowelPrice;
        h = town.mixedInto(h);
        for (int r = 0; r < ROWS; r++) {
            h = rows[r].mixedInto(h);
        }
        for (int t = 0; t < TEXTS; t++) {
            h = texts[t].mixedInto(h);
        }
        return h;
    }

    // ---- what the calls share

    private static boolean isRow(int r) {
        return r >= 0 && r < ROWS;
    }

    private static boolean isText(int t) {
        return t >= 0 && t < TEXTS;
    }

    private static boolean isKeepingPlace(int k) {
        return k >= 0 && k < KEPT;
    }

    private boolean isPerson(int x) {
        return x >= 0 && x < town.now.size;
    }

    private boolean isPair(int x, int y) {
        return isPerson(x) && isPerson(y) && x != y;
    }

    private int find(int finding) {
        latest = finding;
        found[finding]++;
        return FINDING;
    }

    /** The FINDING that keeps a place of a ROW or TEXT from being used, or 0; likewise the next three. */
    private static int placeFinding(Row row, int i) {
        if (!row.there) {
            return NOTHING;
        }
        return row.has(i) ? 0 : BEYOND;
    }

    private static int nameFinding(Row text) {
        if (!text.there) {
            return NOTHING;
        }
        if (text.size < 1 || text.size > MOST_LETTERS) {
            return SIZE;
        }
        for (int i = 0; i < text.size; i++) {
            if (!Name.isLetter(text.places[i])) {
                return UNLIKE;
            }
        }
        return 0;
    }

    private static int numbersFinding(Row row, int most, int bound) {
        if (!row.there) {
            return NOTHING;
        }
        if (row.size > most) {
            return SIZE;
        }
        for (int i = 0; i < row.size; i++) {
            if (row.places[i] < 0 || row.places[i] >= bound) {
                return UNLIKE;
            }
        }
        return 0;
    }

    private int callsFinding(Row row, int most) {
        int finding = numbersFinding(row, most, 100 * MOST_PEOPLE);
        if (finding != 0) {
            return finding;
        }
        for (int i = 0; i < row.size; i++) {
            if (!isPair(row.places[i] / 100, row.places[i] % 100)) {
                return UNLIKE;
            }
        }
        return 0;
    }

    private int fewestInto(int to, int size) {
        if (search.fewest == Search.NO_WAY) {
            return NONE;
        }
        rows[to].renew(size, 0);
        System.arraycopy(search.found, 0, rows[to].places, 0, size);
        return search.fewest;
    }

    /** Whether all CALLS can be without a mistake, when x's NAME has so many a's more. */
    private boolean goesWell(Row calls, int x, int letters) {
        Folk mended = search.from(town.now, way);
        for (int i = 0; i < letters; i++) {
            mended.names[x] = Name.with(mended.names[x], 1);
        }
        return search.judgeCalls(calls) == calls.size && search.mistakes == 0;
    }

    private static int thereAmong(Row[] some) {
        int n = 0;
        for (int i = 0; i < some.length; i++) {
            if (some[i].there) {
                n++;
            }
        }
        return n;
    }

    /** The greatest number that both can be shared by; all is 1 at least. */
    private static int commonPart(int some, int all) {
        for (int d = all; d > 1; d--) {
            if (some % d == 0 && all % d == 0) {
                return d;
            }
        }
        return 1;
    }

    /**
     * A NAME is one int of six LETTERS, five bits each (a is 1, no LETTER 0), the
     * first one highest: NAMES are alike when the ints are; without LETTERS it is 0.
     */
    private static final class Name {
        private static final int BITS = 5, MASK = 31, ALL_BITS = BITS * MOST_LETTERS;
        /** The numbers of a, e, i, o, u as bits. */
        private static final int VOWELS = 1 << 1 | 1 << 5 | 1 << 9 | 1 << 15 | 1 << 21;

        static boolean isLetter(int v) {
            return v > BEFORE_A && v <= BEFORE_A + ALPHABET;
        }

        static boolean isVowel(int letter) {
            return (VOWELS >>> letter & 1) != 0;
        }

        static int size(int name) {
            int n = MOST_LETTERS;
            while (n > 0 && (name >>> (ALL_BITS - BITS * n) & MASK) == 0) {
                n--;
            }
            return n;
        }

        static int letterAt(int name, int i) {
            return name >>> (ALL_BITS - BITS * (i + 1)) & MASK;
        }

        static int start(int name, int n) {
            int behind = ALL_BITS - BITS * n;
            return name >>> behind << behind;
        }

        /** The NAME, of five LETTERS at most, with one more. */
        static int with(int name, int letter) {
            return name | letter << (ALL_BITS - BITS * (size(name) + 1));
        }

        private static int without(int name, int i) {
            int behind = ALL_BITS - BITS * (i + 1);
            int ahead = behind + BITS;
            return name >>> ahead << ahead | (name & (1 << behind) - 1) << BITS;
        }

        static int worn(int name, int way) {
            int size = size(name);
            if (size == 0) {
                return name;
            }
            if (way == 1) {
                return without(name, 0);
            }
            for (int i = 0; way == 2 && i < size; i++) {
                if (isVowel(letterAt(name, i))) {
                    return without(name, i);
                }
            }
            return without(name, size - 1);
        }
    }

    /** A ROW of ints, or a TEXT, whose ints are bytes; its room is made once. */
    private static final class Row {
        final int[] places;
        boolean there = false;
        int size = 0;

        Row(int room) {
            places = new int[room];
        }

        void renew(int n, int filling) {
            there = true;
            size = n;
            for (int i = 0; i < n; i++) {
                places[i] = filling;
            }
        }

        boolean has(int i) {
            return i >= 0 && i < size;
        }

        boolean hasRun(int i, int n) {
            return i >= 0 && i <= size && n <= size - i;
        }

        long sum() {
            long all = 0;
            for (int i = 0; i < size; i++) {
                all += places[i];
            }
            return all;
        }

        /** The NAME that stands in a TEXT of LETTERS. */
        int spelling() {
            int name = 0;
            for (int i = 0; i < size && i < MOST_LETTERS; i++) {
                name = Name.with(name, places[i] - BEFORE_A);
            }
            return name;
        }

        long mixedInto(long h) {
            if (!there) {
                return 31 * h - 1;
            }
            long mixed = 31 * h + size;
            for (int i = 0; i < size; i++) {
                mixed = 31 * mixed + places[i];
            }
            return mixed;
        }
    }

    /** PEOPLE with their NAMES as they are at one time. */
    private static final class Folk {
        final int[] kinds = new int[MOST_PEOPLE];
        final int[] names = new int[MOST_PEOPLE];
        /** Of a HARD one 1, if the NAME WEARS at the next time; 0 for all others. */
        final int[] dues = new int[MOST_PEOPLE];
        int size = 0;

        void take(Folk other) {
            size = other.size;
            System.arraycopy(other.kinds, 0, kinds, 0, size);
            System.arraycopy(other.names, 0, names, 0, size);
            System.arraycopy(other.dues, 0, dues, 0, size);
        }

        /** Becomes the PEOPLE of a TEXT: its FAULT, or NONE. */
        int read(Row text) {
            size = 0;
            boolean within = false;
            for (int p = 0; p < text.size; p++) {
                int v = text.places[p];
                boolean lettersWanted = within && names[size - 1] == 0;
                if (Name.isLetter(v)) {
                    if (!within || Name.size(names[size - 1]) == MOST_LETTERS) {
                        return p;
                    }
                    names[size - 1] = Name.with(names[size - 1], v - BEFORE_A);
                } else if (lettersWanted || v != BLANK && !add(v - FIRST_SIGN)) {
                    return p;
                } else {
                    within = v != BLANK;
                }
            }
            return within && names[size - 1] == 0 ? text.size : NONE;
        }

        private boolean add(int kind) {
            if (kind < 0 || kind > NURSE || size == MOST_PEOPLE) {
                return false;
            }
            kinds[size] = kind;
            names[size] = 0;
            dues[size] = 0;
            size++;
            return true;
        }

        boolean is(int x, int kind) {
            return kinds[x] == kind || kind == MOTHER && kinds[x] == NURSE;
        }

        boolean lives(int x) {
            return kinds[x] != DEAD;
        }

        boolean canCall(int by, int x) {
            return by != x && lives(by) && lives(x) && names[x] != 0;
        }

        boolean canGrow(int x, int letters) {
            return lives(x) && Name.size(names[x]) + letters <= MOST_LETTERS;
        }

        /** Who COMES; nobody, if that CALL can't be: who is called COMES else. */
        int comers(int by, int x) {
            if (!canCall(by, x)) {
                return 0;
            }
            int bits = kinds[by] == NURSE ? beginning(Name.start(names[x], 1)) : named(names[x]);
            return bits & ~(1 << by);
        }

        /** Who is not DEAD and has that NAME. */
        int named(int name) {
            int bits = 0;
            for (int x = 0; x < size; x++) {
                if (lives(x) && names[x] == name) {
                    bits |= 1 << x;
                }
            }
            return bits;
        }

        /** Who is not DEAD and has a NAME that begins so. */
        int beginning(int sound) {
            int bits = 0;
            int length = Name.size(sound);
            for (int x = 0; x < size; x++) {
                if (lives(x) && Name.start(names[x], length) == sound) {
                    bits |= 1 << x;
                }
            }
            return bits;
        }

        /** The NAMES of those who COME WEAR as they do when that one has called. */
        void wearBy(int by, int bits, int way) {
            if (!is(by, MOTHER)) {
                wear(bits, way);
            }
        }

        private void wear(int bits, int way) {
            for (int x = 0; x < size; x++) {
                if ((bits >>> x & 1) != 0) {
                    boolean spared = kinds[x] == HARD && dues[x] == 0;
                    dues[x] = spared ? 1 : 0;
                    names[x] = spared ? names[x] : Name.worn(names[x], way);
                }
            }
        }

        /** All who are not DEAD COME so many times. */
        void wearAll(int times, int way) {
            int alive = 0;
            for (int x = 0; x < size; x++) {
                alive |= lives(x) ? 1 << x : 0;
            }
            for (int i = 0; i < times; i++) {
                wear(alive, way);
            }
        }

        /** How often x COMES till the NAME is that one; NONE: it never is. */
        int timesTill(int x, int name, int way) {
            int now = names[x];
            boolean spared = kinds[x] == HARD && dues[x] == 0;
            for (int times = 0; times <= MOST_TIMES; times++) {
                if (now == name) {
                    return times;
                }
                now = spared ? now : Name.worn(now, way);
                spared = kinds[x] == HARD && !spared;
            }
            return NONE;
        }

        /** How often a NAME is called till it is worn through, or somebody's not of those passed over. */
        int callsTillTaken(int name, int passedOver, int way) {
            int now = name;
            int times = 0;
            while (times < MOST_LETTERS && now != 0 && (named(now) & ~passedOver) == 0) {
                now = Name.worn(now, way);
                times++;
            }
            return times;
        }

        int living() {
            int n = 0;
            for (int x = 0; x < size; x++) {
                n += lives(x) ? 1 : 0;
            }
            return n;
        }

        int nameless() {
            return Integer.bitCount(named(0));
        }

        /** How many unlike NAMES with LETTERS those have who are not DEAD. */
        int unlikeNames() {
            int n = 0;
            for (int x = 0; x < size; x++) {
                boolean firstOfThem = (named(names[x]) & (1 << x) - 1) == 0;
                n += lives(x) && names[x] != 0 && firstOfThem ? 1 : 0;
            }
            return n;
        }

        int letters() {
            int n = 0;
            for (int x = 0; x < size; x++) {
                n += Name.size(names[x]);
            }
            return n;
        }

        int mothers() {
            int n = 0;
            for (int x = 0; x < size; x++) {
                n += is(x, MOTHER) ? 1 : 0;
            }
            return n;
        }
    }

    /** CALLS and mendings, with what WAY and PRICE were then, so that they can be done again. */
    private static final class Deeds {
        final int[] doers = new int[MOST_DEEDS];
        final int[] others = new int[MOST_DEEDS];
        /** The LETTER of a mending; 0 of a CALL. */
        final int[] letters = new int[MOST_DEEDS];
        /** The cost of a mending, the WAY of a CALL. */
        final int[] terms = new int[MOST_DEEDS];
        int size = 0;
        boolean there = false;

        boolean hasRoomFor(int n) {
            return size + n <= MOST_DEEDS;
        }

        void add(int doer, int other, int letter, int term) {
            if (hasRoomFor(1)) {
                doers[size] = doer;
                others[size] = other;
                letters[size] = letter;
                terms[size] = term;
                size++;
            }
        }

        void take(Deeds other) {
            size = other.size;
            System.arraycopy(other.doers, 0, doers, 0, size);
            System.arraycopy(other.others, 0, others, 0, size);
            System.arraycopy(other.letters, 0, letters, 0, size);
            System.arraycopy(other.terms, 0, terms, 0, size);
        }
    }

    /** PEOPLE as they were at first, all that was done since, and what came of it. */
    private static final class Town {
        final Folk founders = new Folk();
        final Folk now = new Folk();
        final int[] came = new int[MOST_PEOPLE];
        final int[] mistaken = new int[MOST_PEOPLE];
        final int[] called = new int[MOST_PEOPLE];
        final Deeds deeds = new Deeds();
        /** Kept TOWNS have the same PEOPLE, as a new TOWN drops them: their deeds are enough. */
        final Deeds[] kept = new Deeds[KEPT];
        int paid = 0;

        Town() {
            for (int k = 0; k < KEPT; k++) {
                kept[k] = new Deeds();
            }
        }

        void found(Folk folk) {
            founders.take(folk);
            for (int k = 0; k < KEPT; k++) {
                kept[k].there = false;
            }
            startOver();
        }

        /** Nothing has been done yet. */
        private void startOver() {
            deeds.size = 0;
            now.take(founders);
            paid = 0;
            for (int x = 0; x < MOST_PEOPLE; x++) {
                came[x] = 0;
                mistaken[x] = 0;
                called[x] = 0;
            }
        }

        /** All is as it was after the first n deeds, which are done again from the start. */
        void goBack(int n) {
            startOver();
            deeds.size = n;
            for (int i = 0; i < n; i++) {
                if (deeds.letters[i] == 0) {
                    carryOutCall(deeds.doers[i], deeds.others[i], deeds.terms[i]);
                } else {
                    carryOutMending(deeds.others[i], deeds.letters[i], deeds.terms[i]);
                }
            }
        }

        int callOut(int by, int x, int way) {
            deeds.add(by, x, 0, way);
            return carryOutCall(by, x, way);
        }

        void mendName(int smith, int x, int letter, int cost) {
            deeds.add(smith, x, letter, cost);
            carryOutMending(x, letter, cost);
        }

        private int carryOutCall(int by, int x, int way) {
            int bits = now.comers(by, x);
            now.wearBy(by, bits, way);
            called[by]++;
            for (int y = 0; y < now.size; y++) {
                int one = bits >>> y & 1;
                came[y] += one;
                mistaken[y] += y == x ? 0 : one;
            }
            return bits;
        }

        private void carryOutMending(int x, int letter, int cost) {
            now.names[x] = Name.with(now.names[x], letter);
            paid += cost;
        }

        int fact(int x, int what) {
            switch (what) {
                case 0:
                    return now.kinds[x];
                case 1:
                    return Name.size(now.names[x]);
                case 2:
                    return came[x];
                case 3:
                    return mistaken[x];
                default:
                    return called[x];
            }
        }

        int sum(int[] each) {
            int all = 0;
            for (int x = 0; x < now.size; x++) {
                all += each[x];
            }
            return all;
        }

        int keptTowns() {
            int n = 0;
            for (int k = 0; k < KEPT; k++) {
                n += kept[k].there ? 1 : 0;
            }
            return n;
        }

        long mixedInto(long h) {
            long mixed = h;
            for (int x = 0; x < now.size; x++) {
                for (int what = 0; what < PERSON_FACTS; what++) {
                    mixed = 31 * mixed + fact(x, what);
                }
                for (int i = 0; i < Name.size(now.names[x]); i++) {
                    mixed = 31 * mixed + BEFORE_A + Name.letterAt(now.names[x], i);
                }
                mixed = 31 * mixed + now.dues[x];
            }
            for (int k = 0; k < KEPT; k++) {
                mixed = 31 * mixed + (kept[k].there ? kept[k].size : -1);
            }
            return mixed;
        }
    }

    /** CALLS tried aside, one behind the other: level n has the PEOPLE as they are after n of them. */
    private static final class Search {
        /** More mistakes than six CALLS of seven PEOPLE can bring. */
        static final int NO_WAY = 1000;

        final Folk[] levels = new Folk[MOST_ORDERED + 1];
        final int[] trial = new int[MOST_ORDERED];
        final int[] found = new int[MOST_ORDERED];
        final int[] calledAt = new int[MOST_HELD];
        int way = 0;
        int mistakes = 0;
        int fewest = NO_WAY;
        int heldRows = 0;
        int firstHeld = NONE;

        Search() {
            for (int i = 0; i < levels.length; i++) {
                levels[i] = new Folk();
            }
        }

        /** Begins anew from PEOPLE as they are, who are copied: the copy. */
        Folk from(Folk folk, int wearing) {
            way = wearing;
            mistakes = 0;
            fewest = NO_WAY;
            heldRows = 0;
            firstHeld = NONE;
            for (int i = 0; i < MOST_HELD; i++) {
                calledAt[i] = 0;
            }
            levels[0].take(folk);
            return levels[0];
        }

        /** The first CALL that can't be, on level 0 itself, and the mistakes till then. */
        int judgeCalls(Row calls) {
            for (int i = 0; i < calls.size; i++) {
                int by = calls.places[i] / 100;
                int x = calls.places[i] % 100;
                int bits = levels[0].comers(by, x);
                if (bits == 0) {
                    return i;
                }
                mistakes += Integer.bitCount(bits) - 1;
                levels[0].wearBy(by, bits, way);
            }
            return calls.size;
        }

        /** The next level is as it is when those have COME on a level, called by that one. */
        private void goOn(int level, int by, int bits) {
            levels[level + 1].take(levels[level]);
            levels[level + 1].wearBy(by, bits, way);
        }

        private void takeTrial(int size, int mistaken) {
            fewest = mistaken;
            System.arraycopy(trial, 0, found, 0, size);
        }

        /** Only fewer mistakes than before are gone on with, so the first of the fewest stays. */
        private void seekOrder(Row calls, int level, int used, int mistaken) {
            if (level >= calls.size || level >= MOST_ORDERED) {
                takeTrial(level, mistaken);
                return;
            }
            for (int p = 0; p < calls.size; p++) {
                int by = calls.places[p] / 100;
                boolean free = (used >>> p & 1) == 0;
                int bits = free ? levels[level].comers(by, calls.places[p] % 100) : 0;
                int then = mistaken + Integer.bitCount(bits) - 1;
                if (bits != 0 && then < fewest) {
                    trial[level] = p;
                    goOn(level, by, bits);
                    seekOrder(calls, level + 1, used | 1 << p, then);
                }
            }
        }

        /** As above. */
        private void seekCallers(Row called, int level, int mistaken) {
            if (level >= called.size || level >= MOST_CALLED) {
                takeTrial(level, mistaken);
                return;
            }
            for (int by = 0; by < levels[level].size; by++) {
                int bits = levels[level].comers(by, called.places[level]);
                int then = mistaken + Integer.bitCount(bits) - 1;
                if (bits != 0 && then < fewest) {
                    trial[level] = by;
                    goOn(level, by, bits);
                    seekCallers(called, level + 1, then);
                }
            }
        }

        private void seekCalled(int by, Row sets, int level) {
            if (level >= sets.size || level >= MOST_HELD) {
                holdTrial(level);
                return;
            }
            for (int x = 0; x < levels[level].size; x++) {
                int bits = levels[level].comers(by, x);
                if (bits != 0 && bits == sets.places[level]) {
                    trial[level] = x;
                    goOn(level, by, bits);
                    seekCalled(by, sets, level + 1);
                }
            }
        }

        private void holdTrial(int size) {
            int number = 0;
            for (int i = 0; i < size; i++) {
                calledAt[i] |= 1 << trial[i];
                number = MOST_PEOPLE * number + trial[i];
            }
            firstHeld = heldRows == 0 ? number : firstHeld;
            heldRows++;
        }
    }
}
