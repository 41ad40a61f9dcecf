/** Edges of promises 39 to 46: days, and what is told. */
public final class EdgesOfToldTest extends Edges {
    private static final String MOTHERS = "2a 2b 2c 2d 2e 2f 2g";

    public static void main(String[] args) {
        new EdgesOfToldTest().run(39, 46);
    }

    // ---- 39 days

    void p39_belowOneOrAbove60IsBad() {
        begin("2a 2b");
        for (int n : new int[] {0, -1, 61, LOW, HIGH}) refused(BAD, () -> w.days(n, 1));
    }

    void p39_noSeedIsBad() {
        begin("2a 2b");
        for (int seed : new int[] {0, -1, HIGH, LOW}) refused(BAD, () -> w.days(1, seed));
    }

    void p39_theLowestSeed() {
        begin("1aaa 1bbb");
        due(w.days(1, 1), 1);
        dueName(0, "aa");
        duePerson(1, 4, 1);
    }

    void p39_theHighestSeed() {
        begin("1aaa 1bbb");
        due(w.days(1, HIGH - 1), 1);
        dueName(1, "bb");
        duePerson(0, 4, 1);
    }

    void p39_numbersBeyondAnIntGoOn() {
        // of seed 1 modulo 7: 6 calls 5, 0 1, 5 6, 4 6, 1 1, 0 0, 0 4, 6 2
        begin(MOTHERS);
        due(w.days(8, 1), 6);
        int[] called = {2, 0, 0, 0, 1, 1, 2};
        int[] came = {0, 1, 1, 0, 1, 1, 2};
        for (int x = 0; x < 7; x++) {
            duePerson(x, 4, called[x]);
            duePerson(x, 2, came[x]);
        }
    }

    void p39_oneDayAndSixty() {
        begin("2a 2b");
        due(w.days(1, 1), 1);
        w.undo(0);
        due(w.days(60, 1), 36);
        due(w.count(1), 36);
    }

    void p39_fewerThanTwoIsState() {
        refused(STATE, () -> w.days(1, 1));
        begin("1a");
        refused(STATE, () -> w.days(1, 1));
        begin("1a 1b");
        due(w.days(1, 1), 1);
    }

    void p39_badIsAheadOfState() {
        refused(BAD, () -> w.days(0, 1));
        refused(BAD, () -> w.days(61, 1));
        refused(BAD, () -> w.days(1, 0));
    }

    void p39_stateIsAheadOfFull() {
        begin("3a");
        w.mend(0, 0, 'b');
        refused(STATE, () -> w.days(60, 1));
    }

    void p39_moreThanSixtyIsFull() {
        begin("2a 2b");
        w.call(0, 1);
        refused(FULL, () -> w.days(60, 1));
        due(w.days(59, 1), 35);
    }

    void p39_mendingsMakeItFullToo() {
        begin("2a 3b");
        w.mend(1, 0, 'b');
        refused(FULL, () -> w.days(60, 1));
    }

    void p39_withSixtyOneDayIsFull() {
        begin("2a 2b");
        callTimes(59, 0, 1);
        w.keep(0);
        due(w.days(1, 1), 1);
        refused(FULL, () -> w.days(1, 1));
        w.on(0);
        refused(FULL, () -> w.days(2, 1));
    }

    void p39_fullIsLast() {
        begin("2a 2b");
        callTimes(60, 0, 1);
        refused(BAD, () -> w.days(0, 1));
        refused(BAD, () -> w.days(61, 1));
        refused(BAD, () -> w.days(60, 0));
    }

    void p39_fullThoughFewCouldBe() {
        begin("4a 4b 2c 1d");
        w.call(2, 3);
        refused(FULL, () -> w.days(60, 1));
    }

    void p39_whatCantBeIsPassed() {
        begin("4a 4b");
        long before = w.digest();
        due(w.days(60, 1), 0);
        due(w.digest(), before);
        begin("1a 4b");
        due(w.days(60, 1), 0);
        due(w.count(1), 0);
    }

    void p39_ofOneselfIsPassed() {
        begin("2a 2b 2c");
        due(w.days(1, 1), 0);
        due(w.days(2, 1), 1);
        duePerson(0, 4, 1);
        duePerson(2, 2, 1);
    }

    void p39_wornOutIsPassed() {
        begin("1a 1b");
        due(w.days(60, 1), 2);
        due(w.count(2), 0);
    }

    void p39_theseAreCalls() {
        begin("1aaa 1aaa");
        w.days(6, 1);
        due(w.count(1), 4);
        due(w.undo(1), 3);
        dueName(0, "aa");
        dueName(1, "aaa");
    }

    void p39_theSameSeedIsTheSameAgain() {
        begin(TOWN);
        due(w.days(20, 77), 10);
        long before = w.digest();
        w.undo(0);
        due(w.days(20, 77), 10);
        due(w.digest(), before);
    }

    void p39_byEveryWay() {
        begin("1xay 1b");
        String[] left = {"xa", "ay", "xy"};
        for (int way = 0; way <= 2; way++) {
            w.way(way);
            due(w.days(1, 1), 1);
            dueName(0, left[way]);
            w.undo(0);
        }
    }

    void p39_askedStays() {
        begin(TOWN);
        w.person(4, 1);
        w.days(20, 77);
        due(w.asked(), 5);
    }

    // ---- 40 asked

    void p40_noughtBefore() {
        due(w.asked(), 0);
        begin(TOWN);
        w.letter(0, 0);
        w.lasts(0);
        due(w.asked(), 0);
    }

    void p40_eachThatTells() {
        begin(TOWN);
        lay(0, 200, 206, 201, 402);
        lay(1, 16);
        write(1, "an");
        dueAsked(w.lay(0, 0, 200), 1, 200);
        dueAsked(w.at(0, 1), 1, 206);
        dueAsked(w.mean(0), 1, 252);
        dueAsked(w.person(4, 1), 1, 5);
        dueAsked(w.unlike(12), 0, 6);
        dueAsked(w.best(1), 'b', 4);
        dueAsked(w.judge(0), 4, 2);
        dueAsked(w.spare(0), 2, 1);
        dueAsked(w.whose(1), 67, 1);
        dueAsked(w.held(2, 1), 1, 4);
        dueAsked(w.crowd(1), 67, 0);
    }

    void p40_refusedOnesDoNotTell() {
        begin(TOWN);
        w.person(4, 1);
        w.row(1, 0);
        w.lay(0, 0, 1);
        w.at(0, 0);
        w.mean(1);
        w.person(0, 5);
        w.unlike(13);
        w.best(3);
        w.judge(0);
        w.spare(0);
        w.whose(3);
        w.held(3, 1);
        w.crowd(3);
        due(w.asked(), 5);
    }

    void p40_noneOfSpareDoesNotTell() {
        begin(TOWN);
        lay(0, 203);
        w.person(4, 1);
        due(w.spare(0), NONE);
        due(w.asked(), 5);
    }

    void p40_noneOfWhoseAndHeldTells() {
        begin(TOWN);
        write(1, "zz");
        dueAsked(w.whose(1), 0, NONE);
        w.person(4, 1);
        lay(0, 3);
        dueAsked(w.held(2, 0), 0, NONE);
    }

    void p40_aNewTownUndoAndOnLeaveIt() {
        begin(TOWN);
        w.keep(0);
        w.person(4, 1);
        w.undo(0);
        w.on(0);
        w.town(0);
        due(w.asked(), 5);
    }

    void p40_othersDoNotTell() {
        begin(TOWN);
        lay(0, 200);
        lay(1, 0);
        lay(2, 16);
        write(1, "an");
        w.person(4, 1);
        w.copy(0, 0, 1, 0, 1);
        w.comes(2, 0);
        w.alike(0);
        w.becomes(0, 1);
        w.first();
        w.name(1);
        w.order(0, 3);
        w.callers(3, 4);
        w.could(2, 2, 0);
        w.shortest(0);
        w.mark(1, 1);
        w.fault(0);
        w.count(2);
        w.findings(1);
        due(w.asked(), 5);
    }

    // ---- 41 upper, 42 lower

    private void duePart(long upper, long lower) {
        due(w.upper(), upper);
        due(w.lower(), lower);
    }

    void p41_noughtIfNobodyCame() {
        due(w.upper(), 0);
        begin(TOWN);
        due(w.upper(), 0);
    }

    void p41_noMistakesAreNought() {
        begin("2a 1b");
        callTimes(6, 0, 1);
        duePart(0, 1);
    }

    void p41_inLowestTerms() {
        begin("2c 1a 1a 1a 1a");
        w.call(0, 1);
        duePart(3, 4);
        w.call(0, 2);
        duePart(3, 4);
    }

    void p41_oneNoughtIsAPartToo() {
        begin("1a 1a 2b");
        w.call(2, 0);
        duePart(1, 2);
        w.undo(0);
        w.call(2, 1);
        duePart(1, 2);
    }

    void p41_theMostThatCanBe() {
        begin("2a 1b 1b 1b 1b 1b 1b");
        callTimes(60, 0, 1);
        duePart(5, 6);
    }

    void p41_ofATownWithoutPeople() {
        begin("2c 1a 1a");
        w.call(0, 1);
        w.text(0, 0);
        w.town(0);
        duePart(0, 1);
    }

    void p42_oneIfNobodyCame() {
        due(w.lower(), 1);
        begin(TOWN);
        due(w.lower(), 1);
        w.mend(2, 0, 'a');
        due(w.lower(), 1);
    }

    void p42_oneWithoutMistakes() {
        begin("2a 1b");
        w.call(0, 1);
        due(w.lower(), 1);
    }

    void p42_whenAllIsUndone() {
        begin("2c 1a 1a");
        w.call(0, 1);
        duePart(1, 2);
        w.keep(0);
        w.undo(0);
        duePart(0, 1);
        w.on(0);
        duePart(1, 2);
    }

    void p42_thatCantBeLess() {
        begin("2c 1a 1a 1b");
        w.call(0, 1);
        w.call(0, 3);
        duePart(1, 3);
    }

    // ---- 43 count

    private void dueCounts(int... want) {
        for (int what = 0; what <= 8; what++) due(w.count(what), want[what]);
    }

    void p43_noughtAtFirst() {
        dueCounts(0, 0, 0, 0, 0, 0, 0, 0, 0);
    }

    void p43_belowNoughtOrAboveEightIsBad() {
        begin(TOWN);
        for (int what : new int[] {-1, 9, LOW, HIGH}) refused(BAD, () -> w.count(what));
    }

    void p43_theMostOfAll() {
        begin("2abcdef 6abcdef 2abcdef 2abcdef 6abcdef 2abcdef 6abcdef");
        callTimes(60, 0, 1);
        for (int k = 0; k < 3; k++) w.keep(k);
        for (int r = 0; r < 6; r++) w.row(r, 0);
        for (int t = 0; t < 4; t++) w.text(t, 0);
        dueCounts(7, 60, 42, 7, 0, 3, 6, 4, 0);
    }

    void p43_mendingsCountAsCalls() {
        begin("1a 3b");
        w.call(1, 0);
        w.mend(1, 0, 'a');
        due(w.count(1), 2);
        due(w.count(8), 3);
    }

    void p43_lettersOfTheDeadCountToo() {
        begin("4abc 1de");
        due(w.count(2), 5);
    }

    void p43_allDeadCantBeCalled() {
        begin("4a 4a 4a 4a 4a 4a 4a");
        due(w.count(4), 7);
    }

    void p43_theDeadAndThoseWithoutLetters() {
        begin("4a 1b 1c");
        due(w.count(4), 1);
        w.call(2, 1);
        due(w.count(4), 2);
    }

    void p43_aTornRowDoesNotCount() {
        w.row(0, 1);
        w.row(0, 2);
        w.row(5, 0);
        due(w.count(6), 2);
        w.tear(0);
        due(w.count(6), 1);
    }

    void p43_whatWasPaidAtMost() {
        begin("1a 3b 2c");
        w.price(99);
        for (int i = 0; i < 29; i++) {
            w.mend(1, 0, 'u');
            w.call(1, 0);
        }
        due(w.count(8), 29 * 99);
    }

    // ---- 44 finding

    void p44_noughtBeforeAny() {
        due(w.finding(), 0);
        begin(TOWN);
        w.call(3, 0);
        w.call(0, 0);
        w.undo(9);
        due(w.finding(), 0);
    }

    void p44_theLatest() {
        begin(TOWN);
        w.at(0, 0);
        due(w.finding(), NOTHING);
        w.letter(0, 9);
        due(w.finding(), BEYOND);
        w.mark(0, 1);
        due(w.finding(), UNLIKE);
        w.lasts(3);
        due(w.finding(), NOUGHT);
        w.row(0, -1);
        due(w.finding(), SIZE);
        w.at(0, 0);
        due(w.finding(), NOTHING);
    }

    void p44_badStateFullNoneLeaveIt() {
        begin("2a 1b 4c");
        w.lasts(2);
        w.row(6, -1);
        w.call(2, 0);
        w.becomes(0, 1);
        callTimes(61, 0, 1);
        due(w.finding(), NOUGHT);
    }

    void p44_whatGoesWellLeavesIt() {
        begin(TOWN);
        w.keep(0);
        w.at(0, 0);
        w.call(2, 0);
        w.undo(0);
        w.on(0);
        w.town(0);
        due(w.finding(), NOTHING);
    }

    // ---- 45 findings

    void p45_belowOneOrAboveFiveIsBad() {
        for (int f : new int[] {0, -1, 6, LOW, HIGH}) refused(BAD, () -> w.findings(f));
    }

    void p45_noughtBefore() {
        for (int f = 1; f <= 5; f++) due(w.findings(f), 0);
    }

    void p45_howOftenEach() {
        begin(TOWN);
        for (int i = 0; i < 1; i++) w.at(0, 0);
        for (int i = 0; i < 2; i++) w.letter(0, 9);
        for (int i = 0; i < 3; i++) w.mark(0, 1);
        for (int i = 0; i < 4; i++) w.lasts(3);
        for (int i = 0; i < 5; i++) w.row(0, -1);
        for (int f = 1; f <= 5; f++) due(w.findings(f), f);
    }

    void p45_aNewTownUndoAndOnLeaveThem() {
        begin(TOWN);
        w.keep(0);
        w.at(0, 0);
        w.undo(0);
        w.on(0);
        w.town(0);
        due(w.findings(NOTHING), 1);
    }

    void p45_ofHundreds() {
        for (int i = 0; i < 500; i++) w.at(0, 0);
        due(w.findings(NOTHING), 500);
    }

    // ---- 46 digest

    private static long mixed(long h, int... values) {
        long mixed = h;
        for (int v : values) mixed = 31 * mixed + v;
        return mixed;
    }

    void p46_ofANewObject() {
        due(w.digest(), mixed(17, 0, 0, 0, 0, 0, 0, 0, 0, 0, 0, 3, -1, -1, -1, -1, -1, -1, -1, -1, -1, -1, -1, -1, -1));
    }

    void p46_aRowOfNoneIsNotMissing() {
        w.row(2, 0);
        due(w.digest(), mixed(17, 0, 0, 0, 0, 0, 0, 1, 0, 0, 0, 3, -1, -1, -1, -1, -1, 0, -1, -1, -1, -1, -1, -1, -1));
        w.tear(2);
        due(w.digest(), new WornNames().digest());
    }

    void p46_aTextOfNoneIsNotMissing() {
        w.text(3, 0);
        due(w.digest(), mixed(17, 0, 0, 0, 0, 0, 0, 0, 1, 0, 0, 3, -1, -1, -1, -1, -1, -1, -1, -1, -1, -1, -1, -1, 0));
    }

    void p46_lowestAndHighestPlaces() {
        lay(5, LOW, HIGH, -1);
        w.text(0, 2);
        w.put(0, 0, 128);
        w.put(0, 1, 255);
        due(w.digest(), mixed(17, 0, 0, 0, 0, 0, 0, 1, 1, 0, 0, 3, -1, -1, -1,
            -1, -1, -1, -1, -1, 3, LOW, HIGH, -1, 2, -128, -1, -1, -1, -1));
    }

    void p46_aTownKeptBeforeAnyCallIsNotMissing() {
        begin("1a");
        w.keep(1);
        due(w.digest(), mixed(17, 1, 0, 1, 0, 0, 1, 0, 1, 0, 0, 3, 0, 1, 0, 0, 0, 'a', 0, -1, 0, -1,
            -1, -1, -1, -1, -1, -1, 2, '1', 'a', -1, -1, -1));
    }

    void p46_aHardOneOnceDueAndOneWithoutLetters() {
        begin("5a 1b");
        w.call(1, 0);
        w.call(0, 1);
        due(w.digest(), mixed(17, 2, 2, 1, 0, 1, 0, 0, 1, 0, 0, 3, 4, 1, 1, 0, 1, 'a', 1, 0, 0, 1, 0, 1, 0, -1, -1, -1,
            -1, -1, -1, -1, -1, -1, 5, '5', 'a', ' ', '1', 'b', -1, -1, -1));
    }

    void p46_aHardOneTwiceDueIsNought() {
        begin("5ab 1b");
        w.call(1, 0);
        w.call(1, 0);
        due(w.digest(), mixed(17, 2, 2, 2, 0, 0, 0, 0, 1, 0, 0, 3, 4, 1, 2, 0, 0, 'a', 0, 0, 1, 0, 0, 2, 'b', 0, -1, -1, -1,
            -1, -1, -1, -1, -1, -1, 6, '5', 'a', 'b', ' ', '1', 'b', -1, -1, -1));
    }

    void p46_othersOnceDueAreNought() {
        begin("1ab 1b");
        w.call(1, 0);
        due(w.digest(), mixed(17, 2, 1, 2, 0, 0, 0, 0, 1, 0, 0, 3, 0, 1, 1, 0, 0, 'a', 0, 0, 1, 0, 0, 1, 'b', 0, -1, -1, -1,
            -1, -1, -1, -1, -1, -1, 6, '1', 'a', 'b', ' ', '1', 'b', -1, -1, -1));
    }

    void p46_lettersAsTheyAreNow() {
        begin("1abc 1x");
        w.way(1);
        w.call(1, 0);
        due(w.digest(), mixed(17, 2, 1, 3, 0, 0, 0, 0, 1, 0, 1, 3, 0, 2, 1, 0, 0, 'b', 'c', 0, 0, 1, 0, 0, 1, 'x', 0,
            -1, -1, -1, -1, -1, -1, -1, -1, -1, 7, '1', 'a', 'b', 'c', ' ', '1', 'x', -1, -1, -1));
    }

    void p46_wayAndPriceAtTheirMost() {
        w.way(2);
        w.price(99);
        due(w.digest(), mixed(17, 0, 0, 0, 0, 0, 0, 0, 0, 0, 2, 99, -1, -1, -1, -1, -1, -1, -1, -1, -1, -1, -1, -1, -1));
    }

    void p46_ofAllThatIsFull() {
        begin("2a 1b 1b");
        callTimes(60, 0, 1);
        w.keep(2);
        w.row(0, 40);
        w.text(0, 80);
        long h = mixed(17, 3, 60, 3, 1, 0, 1, 1, 1, 0, 0, 3,
            1, 1, 0, 0, 60, 'a', 0, 0, 1, 60, 0, 0, 'b', 0, 0, 1, 60, 60, 0, 'b', 0, -1, -1, 60, 40);
        h = mixed(h, new int[40]);
        h = mixed(h, -1, -1, -1, -1, -1, 80);
        for (int i = 0; i < 80; i++) h = mixed(h, ' ');
        due(w.digest(), mixed(h, -1, -1, -1));
    }

    void p46_whatIsAskedOrFoundIsNotInIt() {
        begin(TOWN);
        long before = w.digest();
        w.person(4, 1);
        w.letter(0, 9);
        w.unlike(3);
        due(w.digest(), before);
    }
}
