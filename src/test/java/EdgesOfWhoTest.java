/** Edges of promises 34 to 38: who was it. */
public final class EdgesOfWhoTest extends Edges {
    public static void main(String[] args) {
        new EdgesOfWhoTest().run(34, 38);
    }

    // ---- 34 whose

    private void dueWhose(String name, int want, int asked) {
        write(1, name);
        dueAsked(w.whose(1), want, asked);
    }

    void p34_oneLetterAndSix() {
        begin("1abcdef 5abcdef");
        dueWhose("a", 3, 5);
        dueWhose("abcdef", 3, 0);
    }

    void p34_noneIsSize() {
        begin(TOWN);
        w.text(1, 0);
        finds(SIZE, () -> w.whose(1));
    }

    void p34_moreThanSixIsSize() {
        begin(TOWN);
        write(1, "abcdefg");
        finds(SIZE, () -> w.whose(1));
        w.text(1, 80);
        finds(SIZE, () -> w.whose(1));
    }

    void p34_noLetterIsUnlike() {
        begin(TOWN);
        for (String s : new String[] {"`", "{", "A", "a ", " a", "1a", "a" + (char) 0xe1}) {
            write(1, s);
            finds(UNLIKE, () -> w.whose(1));
        }
    }

    void p34_sizeIsAheadOfUnlike() {
        begin(TOWN);
        write(1, "1234567");
        finds(SIZE, () -> w.whose(1));
    }

    void p34_missingIsNothing() {
        finds(NOTHING, () -> w.whose(3));
    }

    void p34_noSuchTextIsBad() {
        for (int t : NO_TEXTS) refused(BAD, () -> w.whose(t));
    }

    void p34_ofNoneItTellsNone() {
        begin("1ab 4xy");
        w.person(0, 1);
        dueWhose("abc", 0, NONE);
        dueWhose("xy", 0, NONE);
    }

    void p34_withoutPeople() {
        dueWhose("a", 0, NONE);
    }

    void p34_theDeadAreNot() {
        begin("4abc 1abc");
        dueWhose("ab", 2, 1);
    }

    void p34_thoseWithoutLettersAreNot() {
        begin("1a 1b 1ab");
        w.call(1, 0);
        dueWhose("a", 4, 1);
    }

    void p34_noughtTimesIsNow() {
        begin("1ab 1abcd");
        dueWhose("ab", 3, 0);
    }

    void p34_theFewestTimesOfALaterOne() {
        begin("1abcd 1abc 5abc");
        dueWhose("ab", 7, 1);
    }

    void p34_aHardOneWhoseNextTimeIsTheSecond() {
        begin("5abcdef 1x");
        dueWhose("a", 1, 10);
        w.call(1, 0);
        dueWhose("a", 1, 9);
    }

    void p34_byEveryWay() {
        begin("1xay 1axy");
        dueWhose("xy", 0, NONE);
        w.way(1);
        dueWhose("xy", 2, 1);
        w.way(2);
        dueWhose("xy", 3, 1);
    }

    void p34_allSeven() {
        begin("1a 2a 3a 5a 6a 1ab 2abc");
        dueWhose("a", 127, 0);
    }

    void p34_changesNothing() {
        begin(TOWN);
        write(1, "a");
        long before = w.digest();
        w.whose(1);
        due(w.digest(), before);
    }

    // ---- 35 held

    void p35_noCallsHoldOnce() {
        begin(TOWN);
        w.person(4, 1);
        w.row(0, 0);
        dueAsked(w.held(2, 0), 1, 0);
    }

    void p35_fourCalls() {
        begin("2a 1b");
        lay(0, 2, 2, 2, 2);
        dueAsked(w.held(0, 0), 1, 343 + 49 + 7 + 1);
    }

    void p35_theHighestNumber() {
        begin("2a 1b 1c 1d 1e 1f 1g");
        lay(0, 64, 64, 64, 64);
        dueAsked(w.held(0, 0), 1, 2400);
    }

    void p35_moreThanFourIsSize() {
        begin("2a 1b");
        lay(0, 2, 2, 2, 2, 2);
        finds(SIZE, () -> w.held(0, 0));
        w.row(0, 40);
        finds(SIZE, () -> w.held(0, 0));
    }

    void p35_sizeIsAheadOfUnlike() {
        begin("2a 1b");
        lay(0, -1, 2, 2, 2, 2);
        finds(SIZE, () -> w.held(0, 0));
    }

    void p35_noSetIsUnlike() {
        begin(TOWN);
        for (int v : new int[] {-1, 128, 255, LOW, HIGH}) {
            lay(0, 16, v);
            finds(UNLIKE, () -> w.held(2, 0));
        }
        lay(0, 127);
        dueAsked(w.held(2, 0), 0, NONE);
    }

    void p35_aSetWithPeopleWhoAreNotIsUnlike() {
        begin("1a 1b");
        lay(0, 4);
        finds(UNLIKE, () -> w.held(0, 0));
        lay(0, 3);
        dueAsked(w.held(0, 0), 0, NONE);
    }

    void p35_unlikeBehindASetThatDoesNotHold() {
        begin(TOWN);
        lay(0, 127, 128);
        finds(UNLIKE, () -> w.held(2, 0));
    }

    void p35_theEmptySetDoesNotHold() {
        begin(TOWN);
        lay(0, 0);
        dueAsked(w.held(2, 0), 0, NONE);
    }

    void p35_whatCantBeIsNotTheEmptySet() {
        begin("1a 4b");
        lay(0, 0);
        dueAsked(w.held(0, 0), 0, NONE);
    }

    void p35_whoCallsIsInNoSetThatHolds() {
        begin("1ab 1ab 1ab");
        lay(0, 7);
        dueAsked(w.held(0, 0), 0, NONE);
        lay(0, 6);
        dueAsked(w.held(0, 0), 2, 1);
    }

    void p35_aDeadOneIsState() {
        begin(TOWN);
        lay(0, 1);
        refused(STATE, () -> w.held(3, 0));
    }

    void p35_stateIsAheadOfAllFindings() {
        begin(TOWN);
        refused(STATE, () -> w.held(3, 5));
        w.row(0, 5);
        refused(STATE, () -> w.held(3, 0));
        lay(0, -1);
        refused(STATE, () -> w.held(3, 0));
    }

    void p35_missingIsNothing() {
        begin(TOWN);
        finds(NOTHING, () -> w.held(2, 5));
    }

    void p35_nothingIsAheadOfSizeAndUnlike() {
        begin(TOWN);
        w.row(0, 5);
        w.tear(0);
        finds(NOTHING, () -> w.held(2, 0));
        lay(0, -1);
        w.tear(0);
        finds(NOTHING, () -> w.held(2, 0));
    }

    void p35_noSuchRowIsBad() {
        begin(TOWN);
        for (int r : NO_ROWS) refused(BAD, () -> w.held(2, r));
    }

    void p35_nobodyIsBad() {
        begin(TOWN);
        lay(0, 1);
        for (int x : NOBODY) refused(BAD, () -> w.held(x, 0));
    }

    void p35_badIsAheadOfState() {
        begin(TOWN);
        refused(BAD, () -> w.held(3, 6));
    }

    void p35_withoutPeopleIsBad() {
        w.row(0, 0);
        refused(BAD, () -> w.held(0, 0));
    }

    void p35_allRowsThatHold() {
        begin("2x 1a 1a 1a 1a 1a 1a");
        lay(0, 126, 126, 126, 126);
        dueAsked(w.held(0, 0), 1296, 343 + 49 + 7 + 1);
    }

    void p35_thatWearGoOnFromTheWornNames() {
        begin("1x 1ab 1a");
        lay(0, 2, 6);
        dueAsked(w.held(0, 0), 2, 7 + 1);
        lay(0, 6, 2);
        dueAsked(w.held(0, 0), 0, NONE);
        lay(0, 4, 4);
        dueAsked(w.held(0, 0), 0, NONE);
    }

    void p35_aNursesSets() {
        begin("6x 1ab 1ac 1d");
        lay(0, 6);
        dueAsked(w.held(0, 0), 2, 1);
        lay(0, 2);
        dueAsked(w.held(0, 0), 0, NONE);
    }

    void p35_aHardOnesSecondTimes() {
        begin("1x 5a");
        lay(0, 2, 2);
        dueAsked(w.held(0, 0), 1, 8);
        lay(0, 2, 2, 2);
        dueAsked(w.held(0, 0), 0, NONE);
        w.call(0, 1);
        lay(0, 2, 2);
        dueAsked(w.held(0, 0), 0, NONE);
    }

    void p35_oneNoughtIsCalled() {
        begin("1a 1a 2b");
        lay(0, 3);
        dueAsked(w.held(2, 0), 2, 0);
    }

    void p35_byEveryWay() {
        begin("1c 1xay 1xa 1ay 1ay");
        int[] sets = {6, 26, 2};
        int[] rows = {2, 3, 1};
        for (int i = 0; i <= 2; i++) {
            lay(0, 2, sets[i]);
            for (int way = 0; way <= 2; way++) {
                w.way(way);
                dueAsked(w.held(0, 0), way == i ? rows[i] : 0, way == i ? 8 : NONE);
            }
        }
    }

    void p35_isNeverFullAndCallsNobody() {
        begin("2a 1b");
        callTimes(60, 0, 1);
        lay(0, 2);
        long before = w.digest();
        dueAsked(w.held(0, 0), 1, 1);
        due(w.digest(), before);
    }

    // ---- 36 could

    void p36_firstAndLastCall() {
        begin("2a 1b 1b 1c");
        lay(0, 6, 8, 8, 6);
        due(w.could(0, 0, 0), 6);
        due(w.could(0, 0, 1), 8);
        due(w.could(0, 0, 3), 6);
    }

    void p36_belowNoughtOrAboveThreeIsBad() {
        begin("2a 1b");
        lay(0, 2, 2, 2, 2);
        for (int i : new int[] {-1, 4, LOW, HIGH}) refused(BAD, () -> w.could(0, 0, i));
    }

    void p36_noSuchCallIsBad() {
        begin("2a 1b");
        lay(0, 2, 2, 2);
        due(w.could(0, 0, 2), 2);
        refused(BAD, () -> w.could(0, 0, 3));
        w.row(0, 0);
        refused(BAD, () -> w.could(0, 0, 0));
    }

    void p36_noSuchCallIsBehindTheOthers() {
        begin("2a 1b 4c");
        refused(STATE, () -> w.could(2, 0, 3));
        finds(NOTHING, () -> w.could(0, 0, 3));
        lay(0, 9);
        finds(UNLIKE, () -> w.could(0, 0, 3));
        w.row(0, 0);
        refused(STATE, () -> w.could(2, 0, 0));
    }

    void p36_aNumberAboveThreeIsAheadOfState() {
        begin("2a 1b 4c");
        refused(BAD, () -> w.could(2, 0, 4));
        refused(BAD, () -> w.could(2, 0, -1));
    }

    void p36_moreThanFourIsSize() {
        begin("2a 1b");
        lay(0, 2, 2, 2, 2, 2);
        for (int i = 0; i < 4; i++) {
            int place = i;
            finds(SIZE, () -> w.could(0, 0, place));
        }
    }

    void p36_sizeIsAheadOfUnlike() {
        begin("2a 1b");
        lay(0, -1, 2, 2, 2, 2);
        finds(SIZE, () -> w.could(0, 0, 0));
    }

    void p36_noSetIsUnlike() {
        begin("2a 1b");
        for (int v : new int[] {-1, 4, 128, LOW, HIGH}) {
            lay(0, 2, v);
            finds(UNLIKE, () -> w.could(0, 0, 0));
        }
    }

    void p36_aDeadOneIsState() {
        begin(TOWN);
        lay(0, 1);
        refused(STATE, () -> w.could(3, 0, 0));
    }

    void p36_stateIsAheadOfAllFindings() {
        begin(TOWN);
        refused(STATE, () -> w.could(3, 5, 0));
        w.row(0, 5);
        refused(STATE, () -> w.could(3, 0, 0));
        lay(0, -1);
        refused(STATE, () -> w.could(3, 0, 0));
    }

    void p36_missingIsNothing() {
        begin(TOWN);
        finds(NOTHING, () -> w.could(2, 5, 0));
    }

    void p36_nothingIsAheadOfSizeAndUnlike() {
        begin(TOWN);
        w.row(0, 5);
        w.tear(0);
        finds(NOTHING, () -> w.could(2, 0, 0));
        lay(0, -1);
        w.tear(0);
        finds(NOTHING, () -> w.could(2, 0, 0));
    }

    void p36_nobodyAndNoSuchRowAreBad() {
        begin(TOWN);
        lay(0, 1);
        for (int x : NOBODY) refused(BAD, () -> w.could(x, 0, 0));
        for (int r : NO_ROWS) refused(BAD, () -> w.could(2, r, 0));
    }

    void p36_whenNoRowHoldsNobody() {
        begin("1x 1a 1b");
        lay(0, 2, 2);
        due(w.could(0, 0, 0), 0);
        due(w.could(0, 0, 1), 0);
    }

    void p36_fromAsItIsNow() {
        begin("1x 1ab 1abc");
        lay(0, 6);
        due(w.could(0, 0, 0), 0);
        w.call(0, 2);
        due(w.could(0, 0, 0), 6);
    }

    void p36_onlyByRowsThatHoldToTheEnd() {
        begin("6x 1ab 1ac 1d");
        lay(0, 6, 8);
        due(w.could(0, 0, 0), 6);
        lay(0, 6, 2);
        due(w.could(0, 0, 0), 0);
    }

    void p36_byEveryWay() {
        begin("1c 1xay 1xa 1ay 1ay");
        int[] sets = {6, 26, 2};
        for (int i = 0; i <= 2; i++) {
            lay(0, 2, sets[i]);
            for (int way = 0; way <= 2; way++) {
                w.way(way);
                due(w.could(0, 0, 1), way == i ? sets[i] : 0);
            }
        }
    }

    void p36_askedStays() {
        begin("2a 1b");
        lay(0, 2);
        w.person(0, 0);
        w.could(0, 0, 0);
        due(w.asked(), 1);
    }

    void p36_changesNothing() {
        begin(TOWN);
        lay(0, 16, 16);
        long before = w.digest();
        due(w.could(2, 0, 1), 16);
        due(w.digest(), before);
    }

    // ---- 37 crowd

    private void dueCrowd(String sound, int want, int asked) {
        write(1, sound);
        dueAsked(w.crowd(1), want, asked);
    }

    void p37_oneLetterAndSix() {
        begin("1abcdef 1a 1b 1abcdeg");
        dueCrowd("a", 11, 2);
        dueCrowd("abcdef", 1, 1);
        dueCrowd("abcde", 9, 0);
    }

    void p37_noneIsSize() {
        begin(TOWN);
        w.text(1, 0);
        finds(SIZE, () -> w.crowd(1));
    }

    void p37_moreThanSixIsSize() {
        begin(TOWN);
        write(1, "abcdefg");
        finds(SIZE, () -> w.crowd(1));
        w.text(1, 80);
        finds(SIZE, () -> w.crowd(1));
    }

    void p37_noLetterIsUnlike() {
        begin(TOWN);
        for (String s : new String[] {"`", "{", "A", "a ", " a", "1a", "a" + (char) 0xe1}) {
            write(1, s);
            finds(UNLIKE, () -> w.crowd(1));
        }
    }

    void p37_sizeIsAheadOfUnlike() {
        begin(TOWN);
        write(1, "1234567");
        finds(SIZE, () -> w.crowd(1));
    }

    void p37_missingIsNothing() {
        finds(NOTHING, () -> w.crowd(3));
    }

    void p37_noSuchTextIsBad() {
        for (int t : NO_TEXTS) refused(BAD, () -> w.crowd(t));
    }

    void p37_nobodyComes() {
        begin("1ab 4xy");
        w.person(0, 1);
        dueCrowd("xy", 0, 0);
        dueCrowd("abc", 0, 0);
        dueCrowd("b", 0, 0);
    }

    void p37_withoutPeople() {
        dueCrowd("a", 0, 0);
    }

    void p37_thoseWithoutLettersDoNotCome() {
        begin("1a 1b");
        w.call(1, 0);
        dueCrowd("a", 0, 0);
    }

    void p37_allSeven() {
        begin("1a 2a 3a 5a 6a 1ab 2abc");
        dueCrowd("a", 127, 31);
    }

    void p37_changesNothing() {
        begin("1ab 1ac");
        write(1, "a");
        long before = w.digest();
        due(w.crowd(1), 3);
        due(w.digest(), before);
    }

    // ---- 38 shortest

    void p38_nobodyIsBad() {
        begin(TOWN);
        for (int x : NOBODY) refused(BAD, () -> w.shortest(x));
    }

    void p38_aDeadOneIsState() {
        begin(TOWN);
        refused(STATE, () -> w.shortest(3));
    }

    void p38_oneLetterWhenAlone() {
        begin("1abcdef");
        due(w.shortest(0), 1);
    }

    void p38_allSix() {
        begin("1abcdef 1abcdeg");
        due(w.shortest(0), 6);
    }

    void p38_ofAnothersNameIsNone() {
        begin("1abc 1abc 1d");
        refused(NONE, () -> w.shortest(0));
    }

    void p38_ofAnothersBeginningIsNone() {
        begin("1abc 1abcd");
        refused(NONE, () -> w.shortest(0));
        due(w.shortest(1), 4);
    }

    void p38_theDeadDoNotCome() {
        begin("1abc 4abc 4ab");
        due(w.shortest(0), 1);
    }

    void p38_withoutLettersIsNone() {
        begin("1a 1b");
        w.call(1, 0);
        refused(NONE, () -> w.shortest(0));
        due(w.shortest(1), 1);
    }

    void p38_thoseWithoutLettersDoNotCome() {
        begin("1ab 1a 1x");
        w.call(2, 1);
        due(w.shortest(0), 1);
    }

    void p38_changesNothing() {
        begin(TOWN);
        long before = w.digest();
        due(w.shortest(0), 4);
        due(w.digest(), before);
        due(w.asked(), 0);
    }
}
