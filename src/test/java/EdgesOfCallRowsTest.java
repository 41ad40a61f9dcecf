import java.util.Arrays;

/** Edges of promises 30 to 33: ROWS of CALLS. */
public final class EdgesOfCallRowsTest extends Edges {
    /** One 1 is worn to xa, ay, xy by WAY 0, 1, 2: then one, two, none have that NAME, too. */
    private static final String WAYS = "1c 1xay 1xa 1ay 1ay";

    public static void main(String[] args) {
        new EdgesOfCallRowsTest().run(30, 33);
    }

    private void layOften(int r, int times, int v) {
        int[] values = new int[times];
        Arrays.fill(values, v);
        lay(r, values);
    }

    // ---- 30 judge

    void p30_noCalls() {
        begin(TOWN);
        w.person(4, 1);
        w.row(0, 0);
        dueAsked(w.judge(0), 0, 0);
    }

    void p30_fortyCalls() {
        begin("2a 1b 1b");
        layOften(0, 40, 1);
        dueAsked(w.judge(0), 40, 40);
    }

    void p30_theSeventhOneCallsAndIsCalled() {
        begin(TOWN);
        lay(0, 600, 604, 605, 506);
        dueAsked(w.judge(0), 4, 2);
    }

    void p30_theFirstCantBe() {
        begin("1a 1b 4c");
        for (int v : new int[] {2, 200}) {
            lay(0, v, 1);
            dueAsked(w.judge(0), 0, 0);
        }
    }

    void p30_theLastCantBe() {
        begin("1a 1b 4c");
        lay(0, 1, 100, 2);
        dueAsked(w.judge(0), 2, 0);
    }

    void p30_wornOutItCantBe() {
        begin("1c 1a 1a 1a");
        lay(0, 1, 1, 1);
        dueAsked(w.judge(0), 1, 2);
    }

    void p30_mistakesBehindAreNotCounted() {
        begin("1c 1ab 1ab 4d");
        lay(0, 1, 3, 1);
        dueAsked(w.judge(0), 1, 1);
    }

    void p30_aHardOnesSecondTimes() {
        begin("5ab 1c");
        layOften(0, 5, 100);
        dueAsked(w.judge(0), 4, 0);
        w.call(1, 0);
        dueAsked(w.judge(0), 3, 0);
    }

    void p30_numbersOfNoTwoPeopleAreUnlike() {
        begin(TOWN);
        for (int v : new int[] {-1, 7, 99, 700, 707, 1000, 10001, -100, -200, LOW, HIGH}) {
            lay(0, v);
            finds(UNLIKE, () -> w.judge(0));
        }
    }

    void p30_ofOneselfIsUnlike() {
        begin(TOWN);
        for (int x = 0; x < 7; x++) {
            lay(0, 101 * x);
            finds(UNLIKE, () -> w.judge(0));
        }
    }

    void p30_peopleWhoAreNotInASmallTownAreUnlike() {
        begin("1a 1b");
        for (int v : new int[] {2, 102, 200, 201}) {
            lay(0, v);
            finds(UNLIKE, () -> w.judge(0));
        }
        lay(0, 1, 100);
        dueAsked(w.judge(0), 2, 0);
    }

    void p30_unlikeInTheLastPlace() {
        begin("2a 1b");
        layOften(0, 40, 1);
        w.lay(0, 39, 101);
        finds(UNLIKE, () -> w.judge(0));
    }

    void p30_unlikeBehindWhatCantBe() {
        begin(TOWN);
        lay(0, 203, 0);
        finds(UNLIKE, () -> w.judge(0));
    }

    void p30_placesBehindAShorterRowAreNotRead() {
        begin(TOWN);
        lay(0, 200, 707);
        lay(0, 200);
        dueAsked(w.judge(0), 1, 0);
    }

    void p30_withoutPeople() {
        w.row(0, 0);
        dueAsked(w.judge(0), 0, 0);
        lay(0, 1);
        finds(UNLIKE, () -> w.judge(0));
    }

    void p30_missingIsNothing() {
        begin(TOWN);
        finds(NOTHING, () -> w.judge(5));
    }

    void p30_aTornRowIsNothing() {
        begin(TOWN);
        lay(5, 200, 707);
        w.tear(5);
        finds(NOTHING, () -> w.judge(5));
    }

    void p30_noSuchRowIsBad() {
        begin(TOWN);
        for (int r : NO_ROWS) refused(BAD, () -> w.judge(r));
    }

    void p30_isNeverFull() {
        begin("2a 1b");
        callTimes(60, 0, 1);
        lay(0, 1, 1);
        dueAsked(w.judge(0), 2, 0);
    }

    void p30_byEveryWay() {
        begin(WAYS);
        lay(0, 1, 1);
        int[] mistakes = {1, 2, 0};
        for (int way = 0; way <= 2; way++) {
            w.way(way);
            dueAsked(w.judge(0), 2, mistakes[way]);
        }
    }

    void p30_changesNothing() {
        begin(TOWN);
        lay(0, 200, 206, 201, 402);
        long before = w.digest();
        w.judge(0);
        due(w.digest(), before);
    }

    // ---- 31 order

    void p31_noCalls() {
        begin(TOWN);
        w.row(0, 0);
        lay(1, 7, 8);
        due(w.order(0, 1), 0);
        dueRow(1);
    }

    void p31_sixCallsAlikeStandAsTheyStood() {
        begin("2a 1b");
        layOften(0, 6, 1);
        due(w.order(0, 1), 0);
        dueRow(1, 0, 1, 2, 3, 4, 5);
    }

    void p31_moreThanSixIsSize() {
        begin("2a 1b");
        layOften(0, 7, 1);
        w.row(1, 2);
        finds(SIZE, () -> w.order(0, 1));
        layOften(0, 40, 1);
        finds(SIZE, () -> w.order(0, 1));
    }

    void p31_sizeIsAheadOfUnlike() {
        begin("2a 1b");
        w.row(0, 7);
        finds(SIZE, () -> w.order(0, 1));
    }

    void p31_numbersOfNoTwoPeopleAreUnlike() {
        begin(TOWN);
        lay(1, 5);
        for (int v : new int[] {-1, 0, 7, 707, 303, LOW, HIGH}) {
            lay(0, 200, v);
            finds(UNLIKE, () -> w.order(0, 1));
        }
    }

    void p31_unlikeIsAheadOfNone() {
        begin(TOWN);
        lay(0, 203, 707);
        finds(UNLIKE, () -> w.order(0, 1));
    }

    void p31_missingIsNothing() {
        begin(TOWN);
        w.row(1, 1);
        finds(NOTHING, () -> w.order(0, 1));
    }

    void p31_nothingIsAheadOfSizeAndUnlike() {
        begin(TOWN);
        w.row(0, 7);
        w.tear(0);
        finds(NOTHING, () -> w.order(0, 1));
        lay(0, 707);
        w.tear(0);
        finds(NOTHING, () -> w.order(0, 1));
    }

    void p31_theOtherRowMayBeMissing() {
        begin(TOWN);
        lay(0, 200);
        due(w.order(0, 5), 0);
        due(w.count(6), 2);
        dueRow(5, 0);
    }

    void p31_noSuchRowIsBad() {
        begin(TOWN);
        lay(0, 200);
        for (int r : NO_ROWS) refused(BAD, () -> w.order(r, 0));
        for (int r : NO_ROWS) refused(BAD, () -> w.order(0, r));
    }

    void p31_badIsAheadOfNothing() {
        begin(TOWN);
        refused(BAD, () -> w.order(0, 6));
    }

    void p31_inNoOrderIsNone() {
        begin("1a 1b 1c 4d");
        lay(0, 201, 201);
        lay(1, 5, 6);
        refused(NONE, () -> w.order(0, 1));
        lay(0, 203);
        refused(NONE, () -> w.order(0, 2));
        lay(0, 200, 301);
        refused(NONE, () -> w.order(0, 1));
    }

    void p31_onlyInTheOtherOrder() {
        begin("1a 2b 1c");
        lay(0, 200, 100);
        due(w.order(0, 1), 0);
        dueRow(1, 1, 0);
    }

    void p31_theFirstOfAllWithAsFew() {
        begin("1ab 1cd 1ef");
        lay(0, 1, 2, 102);
        due(w.order(0, 1), 0);
        dueRow(1, 0, 1, 2);
    }

    void p31_theLastOrderOfAll() {
        begin("1a 2b 1c");
        lay(0, 200, 100, 100, 100);
        due(w.order(0, 1), 0);
        dueRow(1, 1, 2, 3, 0);
    }

    void p31_mistakesThatHaveToBe() {
        begin("1ab 1ab 1c 1ab");
        lay(0, 200);
        due(w.order(0, 1), 2);
        dueRow(1, 0);
    }

    void p31_anewShorterAndLonger() {
        begin("2a 1b");
        layOften(1, 9, 7);
        lay(0, 1);
        due(w.order(0, 1), 0);
        dueRow(1, 0);
        lay(0, 1, 1, 1);
        due(w.order(0, 1), 0);
        dueRow(1, 0, 1, 2);
    }

    void p31_toItself() {
        begin("1a 2b 1c");
        lay(0, 200, 100);
        due(w.order(0, 0), 0);
        dueRow(0, 1, 0);
    }

    void p31_byEveryWay() {
        begin(WAYS);
        lay(0, 1, 1);
        int[] mistakes = {1, 2, 0};
        for (int way = 0; way <= 2; way++) {
            w.way(way);
            due(w.order(0, 1), mistakes[way]);
            dueRow(1, 0, 1);
        }
    }

    void p31_fromAsItIsNow() {
        begin("1x 1ab 1abc");
        lay(0, 1);
        due(w.order(0, 1), 0);
        w.call(0, 2);
        due(w.order(0, 1), 1);
        dueRow(1, 0);
        callTimes(2, 0, 1);
        refused(NONE, () -> w.order(0, 1));
    }

    void p31_isNeverFullAndCallsNobody() {
        begin("2a 1b");
        callTimes(60, 0, 1);
        lay(0, 1);
        w.row(1, 1);
        long before = w.digest();
        due(w.order(0, 1), 0);
        due(w.digest(), before);
        due(w.asked(), 0);
    }

    // ---- 32 callers

    void p32_noneCalled() {
        begin(TOWN);
        w.row(0, 0);
        lay(1, 7, 8);
        due(w.callers(0, 1), 0);
        dueRow(1);
    }

    void p32_five() {
        begin("2a 1b");
        layOften(0, 5, 1);
        due(w.callers(0, 1), 0);
        dueRow(1, 0, 0, 0, 0, 0);
    }

    void p32_theFifthHasItsOwn() {
        begin("2a 1b");
        lay(0, 1, 1, 1, 1, 0);
        due(w.callers(0, 1), 0);
        dueRow(1, 0, 0, 0, 0, 1);
    }

    void p32_theFifthCantBe() {
        begin("1a 1bcde");
        layOften(0, 5, 1);
        refused(NONE, () -> w.callers(0, 1));
        layOften(0, 4, 1);
        due(w.callers(0, 1), 0);
    }

    void p32_fromAsItIsNow() {
        begin("1x 1ab 1abc");
        lay(0, 1);
        due(w.callers(0, 1), 0);
        dueRow(1, 0);
        w.call(0, 2);
        due(w.callers(0, 1), 0);
        dueRow(1, 2);
    }

    void p32_moreThanFiveIsSize() {
        begin("2a 1b");
        layOften(0, 6, 1);
        finds(SIZE, () -> w.callers(0, 1));
        layOften(0, 40, 1);
        finds(SIZE, () -> w.callers(0, 1));
    }

    void p32_sizeIsAheadOfUnlike() {
        begin("2a 1b");
        layOften(0, 6, 9);
        finds(SIZE, () -> w.callers(0, 1));
    }

    void p32_nobodyIsUnlike() {
        begin(TOWN);
        lay(1, 5);
        for (int v : NOBODY) {
            lay(0, 0, v);
            finds(UNLIKE, () -> w.callers(0, 1));
        }
    }

    void p32_whoIsNotInASmallTownIsUnlike() {
        begin("1a 1b");
        lay(0, 2);
        finds(UNLIKE, () -> w.callers(0, 1));
    }

    void p32_unlikeIsAheadOfNone() {
        begin(TOWN);
        lay(0, 3, 7);
        finds(UNLIKE, () -> w.callers(0, 1));
    }

    void p32_missingIsNothing() {
        begin(TOWN);
        w.row(1, 1);
        finds(NOTHING, () -> w.callers(0, 1));
    }

    void p32_nothingIsAheadOfSizeAndUnlike() {
        begin(TOWN);
        w.row(0, 6);
        w.tear(0);
        finds(NOTHING, () -> w.callers(0, 1));
        lay(0, 7);
        w.tear(0);
        finds(NOTHING, () -> w.callers(0, 1));
    }

    void p32_theOtherRowMayBeMissing() {
        begin("1a 1b");
        lay(0, 0);
        due(w.callers(0, 5), 0);
        dueRow(5, 1);
    }

    void p32_noSuchRowIsBad() {
        begin(TOWN);
        lay(0, 0);
        for (int r : NO_ROWS) refused(BAD, () -> w.callers(r, 0));
        for (int r : NO_ROWS) refused(BAD, () -> w.callers(0, r));
    }

    void p32_badIsAheadOfNothing() {
        begin(TOWN);
        refused(BAD, () -> w.callers(0, 6));
    }

    void p32_aloneIsNever() {
        begin("1a");
        lay(0, 0);
        lay(1, 5);
        refused(NONE, () -> w.callers(0, 1));
        refused(NONE, () -> w.callers(0, 2));
    }

    void p32_theDeadDoNotCall() {
        begin("1a 4b");
        lay(0, 0);
        refused(NONE, () -> w.callers(0, 1));
        begin("1a 4b 1c");
        due(w.callers(0, 1), 0);
        dueRow(1, 2);
    }

    void p32_theDeadAreNotCalled() {
        begin("1a 4b");
        lay(0, 1);
        refused(NONE, () -> w.callers(0, 1));
    }

    void p32_wornOutIsNever() {
        begin("2a 1b");
        lay(0, 0, 0);
        refused(NONE, () -> w.callers(0, 1));
    }

    void p32_onlyAMotherCanCallAhead() {
        begin("1a 1b 2c");
        lay(0, 0, 0);
        due(w.callers(0, 1), 0);
        dueRow(1, 2, 1);
    }

    void p32_theFirstOfAllWithAsFew() {
        begin("1ab 1cd 1ef");
        lay(0, 0, 1, 2);
        due(w.callers(0, 1), 0);
        dueRow(1, 1, 0, 0);
    }

    void p32_whoWouldComeByMistakeCalls() {
        begin("1ab 1cd 1ab");
        lay(0, 0);
        due(w.callers(0, 1), 0);
        dueRow(1, 2);
    }

    void p32_mistakesThatHaveToBe() {
        begin("1ab 1ab 1ab 1ab");
        lay(0, 0);
        due(w.callers(0, 1), 2);
        dueRow(1, 1);
    }

    void p32_toItself() {
        begin("1a 1b");
        lay(0, 0);
        due(w.callers(0, 0), 0);
        dueRow(0, 1);
    }

    void p32_withoutPeople() {
        w.row(0, 0);
        due(w.callers(0, 1), 0);
        lay(0, 0);
        finds(UNLIKE, () -> w.callers(0, 1));
    }

    void p32_byEveryWay() {
        begin(WAYS);
        lay(0, 1, 1);
        int[] mistakes = {0, 1, 0};
        int[] second = {2, 3, 0};
        for (int way = 0; way <= 2; way++) {
            w.way(way);
            due(w.callers(0, 1), mistakes[way]);
            dueRow(1, 0, second[way]);
        }
    }

    void p32_isNeverFullAndCallsNobody() {
        begin("2a 1b");
        callTimes(60, 0, 1);
        lay(0, 1);
        w.row(1, 1);
        long before = w.digest();
        due(w.callers(0, 1), 0);
        due(w.digest(), before);
        due(w.asked(), 0);
    }

    // ---- 33 spare

    void p33_noneHaveToIsOneNought() {
        begin("1a 1b 3c");
        w.person(2, 0);
        lay(0, 1);
        dueAsked(w.spare(0), 0, 0);
    }

    void p33_noCalls() {
        begin("1a 1a 3c");
        w.person(2, 0);
        w.row(0, 0);
        dueAsked(w.spare(0), 0, 0);
    }

    void p33_oneLetterOfFive() {
        begin("1abcde 1abcde 3x");
        lay(0, 200);
        dueAsked(w.spare(0), 1, 0);
    }

    void p33_sixLettersCantBeMended() {
        begin("1abcdef 1abcdef 3x");
        w.person(2, 0);
        lay(0, 200);
        refused(NONE, () -> w.spare(0));
    }

    void p33_sixLettersForOneWithoutAny() {
        begin("1a 3z");
        w.call(1, 0);
        layOften(0, 6, 100);
        dueAsked(w.spare(0), 6, 0);
        layOften(0, 7, 100);
        w.person(1, 0);
        refused(NONE, () -> w.spare(0));
    }

    void p33_theDeadAreNotMended() {
        begin("4a 1b 3c");
        lay(0, 200);
        refused(NONE, () -> w.spare(0));
    }

    void p33_ofOneNameAlone() {
        begin("1a 1b 3c");
        w.call(2, 0);
        w.call(2, 1);
        lay(0, 200, 201);
        refused(NONE, () -> w.spare(0));
    }

    void p33_theFirstOfThoseWithAsFew() {
        begin("3c 1ab 1ab");
        lay(0, 2);
        dueAsked(w.spare(0), 1, 1);
    }

    void p33_fewerLettersOfALaterOne() {
        begin("1ab 1ab 1aba 3z");
        lay(0, 300);
        dueAsked(w.spare(0), 1, 1);
    }

    void p33_twoLetters() {
        begin("1a 3z");
        lay(0, 100, 100, 100);
        dueAsked(w.spare(0), 2, 0);
    }

    void p33_numbersOfNoTwoPeopleAreUnlike() {
        begin(TOWN);
        for (int v : new int[] {-1, 0, 7, 707, 303, LOW, HIGH}) {
            lay(0, 200, v);
            finds(UNLIKE, () -> w.spare(0));
        }
    }

    void p33_fortyCalls() {
        begin("2a 1b 1b");
        layOften(0, 40, 1);
        dueAsked(w.spare(0), 1, 1);
    }

    void p33_missingIsNothing() {
        begin(TOWN);
        finds(NOTHING, () -> w.spare(5));
    }

    void p33_aTornRowIsNothing() {
        begin(TOWN);
        lay(5, 200, 707);
        w.tear(5);
        finds(NOTHING, () -> w.spare(5));
    }

    void p33_noSuchRowIsBad() {
        begin(TOWN);
        for (int r : NO_ROWS) refused(BAD, () -> w.spare(r));
    }

    void p33_withoutPeople() {
        w.row(0, 0);
        dueAsked(w.spare(0), 0, 0);
        lay(0, 1);
        finds(UNLIKE, () -> w.spare(0));
    }

    void p33_byEveryWay() {
        String[] towns = {"1c 1xay 1xa", "1c 1xay 1ay", "1c 1xay 1xy"};
        for (int i = 0; i < towns.length; i++) {
            begin(towns[i]);
            lay(0, 1, 1);
            for (int way = 0; way <= 2; way++) {
                w.way(way);
                dueAsked(w.spare(0), way == i ? 1 : 0, way == i ? 1 : 0);
            }
        }
    }

    void p33_mendsNothingAndIsNeverFull() {
        begin("2a 1b 1b");
        callTimes(60, 0, 1);
        lay(0, 1);
        long before = w.digest();
        dueAsked(w.spare(0), 1, 1);
        due(w.digest(), before);
    }
}
