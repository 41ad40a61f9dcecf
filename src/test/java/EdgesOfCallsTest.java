/** Edges of promises 17 to 23: CALLS, mendings, what is undone, kept, gone on from. */
public final class EdgesOfCallsTest extends Edges {
    public static void main(String[] args) {
        new EdgesOfCallsTest().run(17, 23);
    }

    // ---- 17 call

    void p17_oneselfIsBad() {
        begin(TOWN);
        for (int x = 0; x < 7; x++) {
            int one = x;
            refused(BAD, () -> w.call(one, one));
        }
    }

    void p17_nobodyIsBad() {
        begin(TOWN);
        for (int x : NOBODY) refused(BAD, () -> w.call(x, 0));
        for (int x : NOBODY) refused(BAD, () -> w.call(0, x));
    }

    void p17_badIsAheadOfState() {
        begin(TOWN);
        refused(BAD, () -> w.call(3, 3));
        refused(BAD, () -> w.call(3, 7));
        refused(BAD, () -> w.call(-1, 3));
    }

    void p17_aDeadOneWhoCallsIsState() {
        begin(TOWN);
        refused(STATE, () -> w.call(3, 0));
    }

    void p17_aDeadOneWhoIsCalledIsState() {
        begin(TOWN);
        refused(STATE, () -> w.call(0, 3));
        refused(STATE, () -> w.call(1, 3));
        refused(STATE, () -> w.call(5, 3));
    }

    void p17_withoutLettersIsState() {
        begin("1a 1b 2c 6d");
        w.call(1, 0);
        refused(STATE, () -> w.call(1, 0));
        refused(STATE, () -> w.call(2, 0));
        refused(STATE, () -> w.call(3, 0));
    }

    void p17_whoHasNoLettersCanCall() {
        begin("1a 1b");
        w.call(1, 0);
        due(w.call(0, 1), 2);
    }

    void p17_theSixtiethIsNotFull() {
        begin("2a 1b");
        callTimes(59, 0, 1);
        due(w.call(0, 1), 2);
        due(w.count(1), 60);
        refused(FULL, () -> w.call(0, 1));
    }

    void p17_mendingsMakeItFullToo() {
        begin("2a 1b 3c");
        callTimes(59, 0, 1);
        due(w.mend(2, 1, 'c'), 1);
        refused(FULL, () -> w.call(0, 1));
    }

    void p17_fullIsLast() {
        begin("2a 1b 4c");
        callTimes(60, 0, 1);
        refused(BAD, () -> w.call(0, 0));
        refused(BAD, () -> w.call(0, 3));
        refused(STATE, () -> w.call(0, 2));
        refused(STATE, () -> w.call(2, 0));
    }

    void p17_refusedOnesDoNotCount() {
        begin("2a 1b 4c");
        callTimes(70, 0, 2);
        callTimes(9, 0, 0);
        due(w.count(1), 0);
        duePerson(0, 4, 0);
        due(w.call(0, 1), 2);
    }

    void p17_whoCallsDoesNotCome() {
        begin("1ab 1ab 1ab");
        due(w.call(0, 1), 6);
        dueName(0, "ab");
        due(w.call(0, 1), 6);
    }

    void p17_theDeadDoNotCome() {
        begin("1c 1ab 4ab");
        due(w.call(0, 1), 2);
        dueName(2, "ab");
        duePerson(2, 2, 0);
    }

    void p17_theDeadDoNotComeToANurse() {
        begin("6c 1ab 4ab 4a");
        due(w.call(0, 1), 2);
    }

    void p17_allOthersCome() {
        begin("1a 1a 1a 1a 1a 1a 1a");
        due(w.call(6, 0), 63);
        due(w.count(4), 6);
        duePerson(0, 3, 0);
        duePerson(5, 3, 1);
        duePerson(6, 2, 0);
    }

    void p17_aBeginningAloneIsNotTheSound() {
        begin("1c 1ab 1abc 1a");
        due(w.call(0, 1), 2);
    }

    void p17_aNurseTakesTheFirstLetterAlone() {
        begin("6c 1ab 1axe 1a 1ba 1aaaaaa");
        due(w.call(0, 1), 2 + 4 + 8 + 32);
    }

    void p17_aNurseWithThatLetterDoesNotComeHerself() {
        begin("6ac 1ab 6ad");
        due(w.call(0, 1), 6);
    }

    void p17_thoseWithoutLettersDoNotComeToANurse() {
        begin("6ac 1ab 1a 1d");
        w.call(3, 2);
        due(w.call(0, 1), 2);
    }

    void p17_aMotherPoints() {
        begin("2c 1ab 5ab 1ab");
        due(w.call(0, 1), 14);
        for (int x = 1; x < 4; x++) dueName(x, "ab");
        due(w.mark(2, 4), 2);
        duePerson(1, 2, 1);
        duePerson(2, 3, 1);
    }

    void p17_aNursePoints() {
        begin("6c 1ab 5ac");
        due(w.call(0, 1), 6);
        dueName(1, "ab");
        due(w.mark(2, 4), 2);
    }

    void p17_whoComesByMistakeWearsToo() {
        begin("1c 1ab 1ab");
        w.call(0, 1);
        dueName(1, "a");
        dueName(2, "a");
    }

    void p17_aHardOneWearsAtTheSecondAndFourthTime() {
        begin("5abc 1d");
        String[] left = {"abc", "ab", "ab", "a", "a", ""};
        for (String name : left) {
            w.call(1, 0);
            dueName(0, name);
        }
        refused(STATE, () -> w.call(1, 0));
    }

    void p17_aHardOneByMistakeIsATimeToo() {
        begin("5ab 1c 1ab");
        due(w.call(1, 2), 5);
        dueName(0, "ab");
        dueName(2, "a");
        due(w.call(1, 0), 1);
        dueName(0, "a");
    }

    void p17_theLastLetterGoes() {
        begin("1b 1a");
        w.call(0, 1);
        dueName(1, "");
        w.way(1);
        begin("1b 1a");
        w.call(0, 1);
        dueName(1, "");
        w.way(2);
        begin("1b 1a");
        w.call(0, 1);
        dueName(1, "");
        begin("1b 1x");
        w.call(0, 1);
        dueName(1, "");
    }

    void p17_ofSixLettersByEachWay() {
        begin("1b 1xabece");
        w.call(0, 1);
        dueName(1, "xabec");
        w.way(1);
        begin("1b 1xabece");
        w.call(0, 1);
        dueName(1, "abece");
        w.way(2);
        begin("1b 1xabece");
        w.call(0, 1);
        dueName(1, "xbece");
    }

    void p17_withoutVowelsTheLastOneGoes() {
        begin("1b 1xyz");
        w.way(2);
        w.call(0, 1);
        dueName(1, "xy");
    }

    void p17_sixLettersWithoutVowelsLoseTheLastOne() {
        for (char c : "bcdfghjklmnpqrstvwxyz".toCharArray()) {
            w = new WornNames();
            w.way(2);
            begin("1b 1" + c + "zyxwv");
            w.call(0, 1);
            dueName(1, c + "zyxw");
        }
    }

    void p17_theFirstVowelGoesFromEachOfSixPlaces() {
        for (int place = 0; place < 6; place++) {
            for (String behind : new String[] {"xwvts", "uuuuu"}) {
                w = new WornNames();
                w.way(2);
                String ahead = "dtbcf".substring(0, place);
                begin("1b 1" + ahead + "o" + behind.substring(place));
                w.call(0, 1);
                dueName(1, ahead + behind.substring(place));
            }
        }
    }

    void p17_vowelsAreFive() {
        for (char c = 'a'; c <= 'z'; c++) {
            w = new WornNames();
            w.way(2);
            begin("1b 1" + c + "x");
            w.call(0, 1);
            dueName(1, "aeiou".indexOf(c) >= 0 ? "x" : "" + c);
        }
    }

    void p17_findsNothing() {
        begin(TOWN);
        w.call(3, 0);
        w.call(0, 0);
        due(w.finding(), 0);
    }

    // ---- 18 mend

    void p18_lettersAreAToZ() {
        begin(TOWN);
        for (int letter : new int[] {96, 123, 65, 32, 0, -1, 97 + 256, LOW, HIGH}) refused(BAD, () -> w.mend(2, 0, letter));
        due(w.mend(2, 0, 97), 3);
        due(w.mend(2, 0, 122), 1);
        dueName(0, "annaaz");
    }

    void p18_nobodyIsBad() {
        begin(TOWN);
        for (int x : NOBODY) refused(BAD, () -> w.mend(x, 0, 97));
        for (int x : NOBODY) refused(BAD, () -> w.mend(2, x, 97));
    }

    void p18_badIsAheadOfUnlike() {
        begin(TOWN);
        refused(BAD, () -> w.mend(0, 7, 97));
        refused(BAD, () -> w.mend(0, 1, 96));
    }

    void p18_noSmithIsUnlike() {
        begin(TOWN);
        for (int x : new int[] {0, 1, 3, 4, 5, 6}) finds(UNLIKE, () -> w.mend(x, 0, 97));
    }

    void p18_unlikeIsAheadOfState() {
        begin("1a 4b 1abcdef 3c");
        finds(UNLIKE, () -> w.mend(0, 1, 97));
        finds(UNLIKE, () -> w.mend(0, 2, 97));
        finds(UNLIKE, () -> w.mend(1, 1, 97));
    }

    void p18_aDeadOneIsState() {
        begin(TOWN);
        refused(STATE, () -> w.mend(2, 3, 97));
    }

    void p18_sixLettersAreState() {
        begin("3ab 1abcdef 1abcde");
        refused(STATE, () -> w.mend(0, 1, 97));
        due(w.mend(0, 2, 'x'), 1);
        dueName(2, "abcdex");
        refused(STATE, () -> w.mend(0, 2, 97));
    }

    void p18_theSixtiethIsNotFull() {
        begin("2a 1b 3c");
        callTimes(59, 0, 1);
        due(w.mend(2, 1, 'c'), 1);
        due(w.count(1), 60);
        refused(FULL, () -> w.mend(2, 1, 'c'));
    }

    void p18_fullIsLast() {
        begin("2a 1abcdef 3c 4d");
        callTimes(60, 0, 1);
        refused(BAD, () -> w.mend(2, 0, 96));
        finds(UNLIKE, () -> w.mend(0, 0, 97));
        refused(STATE, () -> w.mend(2, 3, 97));
        refused(STATE, () -> w.mend(2, 1, 97));
        refused(FULL, () -> w.mend(2, 0, 97));
    }

    void p18_withoutLetters() {
        begin("1a 3b");
        w.call(1, 0);
        due(w.mend(1, 0, 'z'), 1);
        dueName(0, "z");
        due(w.call(1, 0), 1);
    }

    void p18_onesOwn() {
        begin("3b");
        due(w.mend(0, 0, 'x'), 1);
        dueName(0, "bx");
    }

    void p18_bySmithWithoutLetters() {
        begin("3b 1a");
        w.call(1, 0);
        due(w.mend(0, 0, 'x'), 1);
        dueName(0, "x");
    }

    void p18_fiveVowelsCostThePrice() {
        begin("3b 1x");
        w.price(50);
        for (char c = 'a'; c <= 'z'; c++) {
            due(w.mend(0, 1, c), "aeiou".indexOf(c) >= 0 ? 50 : 1);
            w.undo(0);
        }
    }

    void p18_aPriceOfNoughtAndOf99() {
        begin("3b 1x");
        w.price(0);
        due(w.mend(0, 1, 'a'), 0);
        due(w.mend(0, 1, 'b'), 1);
        due(w.count(8), 1);
        due(w.count(1), 2);
        w.price(99);
        due(w.mend(0, 1, 'u'), 99);
        due(w.count(8), 100);
    }

    void p18_whatWasPaidStaysWhenThePriceChanges() {
        begin("3b 1x");
        w.mend(0, 1, 'a');
        w.price(9);
        due(w.count(8), 3);
        w.mend(0, 1, 'c');
        w.undo(1);
        due(w.count(8), 3);
    }

    void p18_aHardOnesSecondTimeStays() {
        begin("5ab 3c");
        w.call(1, 0);
        w.mend(1, 0, 'c');
        due(w.mark(0, 4), 1);
        w.call(1, 0);
        dueName(0, "ab");
    }

    void p18_isNoCall() {
        begin("3b 1x");
        w.mend(0, 1, 'c');
        for (int what = 2; what <= 4; what++) {
            duePerson(0, what, 0);
            duePerson(1, what, 0);
        }
    }

    // ---- 19 undo

    void p19_belowNoughtOrMoreThanThereWereIsBad() {
        begin(TOWN);
        w.call(2, 0);
        w.call(2, 1);
        for (int n : new int[] {-1, 3, LOW, HIGH}) refused(BAD, () -> w.undo(n));
    }

    void p19_fromBehindTheLastOn() {
        begin(TOWN);
        w.call(2, 0);
        w.call(2, 1);
        long before = w.digest();
        due(w.undo(2), 0);
        due(w.digest(), before);
    }

    void p19_whenThereWereNone() {
        due(w.undo(0), 0);
        refused(BAD, () -> w.undo(1));
        begin(TOWN);
        due(w.undo(0), 0);
        refused(BAD, () -> w.undo(1));
    }

    void p19_allSixty() {
        begin("2a 1b 3c");
        long before = w.digest();
        callTimes(60, 0, 1);
        refused(FULL, () -> w.call(0, 1));
        due(w.undo(0), 60);
        due(w.digest(), before);
        due(w.call(0, 1), 2);
    }

    void p19_mendingsOfSeveralStayTheirs() {
        begin("3x 1a 1b 1c");
        for (int i = 1; i <= 3; i++) due(w.mend(0, i, 'j' + i), 1);
        due(w.mend(0, 0, 'n'), 1);
        due(w.undo(3), 1);
        dueName(0, "x");
        dueName(1, "ak");
        dueName(2, "bl");
        dueName(3, "cm");
        due(w.undo(2), 1);
        dueName(2, "bl");
        dueName(3, "c");
    }

    void p19_theSixtiethAlone() {
        begin("2a 1b");
        callTimes(60, 0, 1);
        refused(BAD, () -> w.undo(61));
        due(w.undo(60), 0);
        due(w.undo(59), 1);
        due(w.call(0, 1), 2);
        refused(FULL, () -> w.call(0, 1));
    }

    void p19_whatIsUndoneIsGone() {
        begin(TOWN);
        callTimes(3, 2, 0);
        w.undo(1);
        refused(BAD, () -> w.undo(2));
        due(w.count(1), 1);
        dueName(0, "ann");
    }

    void p19_lettersAreAsTheyWere() {
        begin("1xaya 1b 1xaya");
        w.call(1, 0);
        dueName(0, "xay");
        w.way(2);
        w.call(1, 0);
        dueName(0, "xy");
        w.way(1);
        w.call(1, 0);
        dueName(2, "y");
        w.undo(2);
        dueName(0, "xy");
        w.undo(1);
        dueName(2, "xay");
        w.undo(0);
        dueName(0, "xaya");
    }

    void p19_howOftenOneCameMistookCalled() {
        begin("1ab 1b 1ab");
        w.call(1, 0);
        w.call(1, 0);
        w.undo(1);
        duePerson(0, 2, 1);
        duePerson(2, 3, 1);
        duePerson(1, 4, 1);
        w.undo(0);
        duePerson(0, 2, 0);
        duePerson(2, 3, 0);
        duePerson(1, 4, 0);
    }

    void p19_aHardOnesSecondTime() {
        begin("5ab 1b");
        w.call(1, 0);
        w.call(1, 0);
        w.undo(1);
        due(w.mark(0, 4), 1);
        dueName(0, "ab");
        w.call(1, 0);
        dueName(0, "a");
        w.undo(0);
        due(w.mark(0, 4), 2);
    }

    void p19_mendingsAndWhatWasPaid() {
        begin("3ab 1b");
        w.mend(0, 1, 'a');
        w.call(0, 1);
        w.mend(0, 1, 'c');
        due(w.undo(2), 1);
        due(w.count(8), 3);
        dueName(1, "b");
        due(w.undo(0), 2);
        due(w.count(8), 0);
        dueName(1, "b");
    }

    void p19_wayAndPriceStay() {
        begin("3ab 1bc");
        w.call(0, 1);
        w.way(1);
        w.price(8);
        w.undo(0);
        due(w.way(0), 1);
        due(w.price(0), 8);
    }

    void p19_keptTownsStay() {
        begin(TOWN);
        w.call(2, 0);
        w.keep(0);
        w.undo(0);
        due(w.count(5), 1);
        due(w.on(0), 1);
    }

    // ---- 20 comes

    void p20_oneselfIsBad() {
        begin(TOWN);
        refused(BAD, () -> w.comes(0, 0));
        refused(BAD, () -> w.comes(3, 3));
    }

    void p20_nobodyIsBad() {
        begin(TOWN);
        for (int x : NOBODY) refused(BAD, () -> w.comes(x, 0));
        for (int x : NOBODY) refused(BAD, () -> w.comes(0, x));
    }

    void p20_badIsAheadOfState() {
        begin(TOWN);
        refused(BAD, () -> w.comes(3, 7));
        refused(BAD, () -> w.comes(7, 3));
    }

    void p20_whatCantBeIsState() {
        begin("1a 4b 1c");
        refused(STATE, () -> w.comes(1, 0));
        refused(STATE, () -> w.comes(0, 1));
        w.call(2, 0);
        refused(STATE, () -> w.comes(2, 0));
    }

    void p20_changesNothing() {
        begin("5ab 1ab 1c");
        long before = w.digest();
        due(w.comes(2, 0), 3);
        due(w.comes(2, 0), 3);
        due(w.digest(), before);
    }

    void p20_isNeverFull() {
        begin("2a 1b");
        callTimes(60, 0, 1);
        due(w.comes(0, 1), 2);
    }

    void p20_allOthers() {
        begin("1a 1a 1a 1a 1a 1a 6b");
        due(w.comes(6, 5), 63);
        due(w.comes(0, 5), 62);
    }

    // ---- 21 alike

    void p21_nobodyIsBad() {
        begin(TOWN);
        for (int x : NOBODY) refused(BAD, () -> w.alike(x));
    }

    void p21_aloneItIsOneself() {
        begin("1a 1b");
        due(w.alike(0), 1);
        due(w.alike(1), 2);
    }

    void p21_theDeadAreNot() {
        begin("1a 4a 1a");
        due(w.alike(0), 5);
    }

    void p21_aDeadOneIsHerself() {
        begin("1a 4a 4a 4b");
        due(w.alike(1), 3);
        due(w.alike(2), 5);
        due(w.alike(3), 8);
    }

    void p21_allSeven() {
        begin("1a 2a 3a 5a 6a 1a 2a");
        due(w.alike(0), 127);
        due(w.alike(6), 127);
    }

    void p21_withoutLetters() {
        begin("1a 1b 1c 4d");
        w.call(2, 0);
        w.call(2, 1);
        due(w.alike(0), 3);
    }

    void p21_aBeginningIsNotAlike() {
        begin("1a 1ab 1abc");
        due(w.alike(1), 2);
    }

    // ---- 22 keep

    void p22_noSuchPlaceIsBad() {
        begin(TOWN);
        for (int k : NO_PLACES_TO_KEEP) refused(BAD, () -> w.keep(k));
    }

    void p22_noPeopleIsState() {
        refused(STATE, () -> w.keep(0));
        w.text(0, 5);
        w.town(0);
        refused(STATE, () -> w.keep(2));
    }

    void p22_badIsAheadOfState() {
        for (int k : NO_PLACES_TO_KEEP) refused(BAD, () -> w.keep(k));
    }

    void p22_firstAndLastPlace() {
        begin(TOWN);
        due(w.keep(0), 0);
        w.call(2, 0);
        due(w.keep(2), 1);
        due(w.count(5), 2);
        finds(NOTHING, () -> w.on(1));
    }

    void p22_noCallsAndSixty() {
        begin("2a 1b");
        due(w.keep(0), 0);
        callTimes(60, 0, 1);
        due(w.keep(1), 60);
        due(w.on(0), 0);
        due(w.on(1), 60);
    }

    void p22_inAPlaceThatIsTaken() {
        begin(TOWN);
        w.keep(0);
        w.call(2, 0);
        due(w.keep(0), 1);
        due(w.count(5), 1);
        w.undo(0);
        due(w.on(0), 1);
        dueName(0, "ann");
    }

    void p22_theSameInAllPlaces() {
        begin(TOWN);
        w.call(2, 0);
        for (int k = 0; k < 3; k++) due(w.keep(k), 1);
        due(w.count(5), 3);
        w.undo(0);
        for (int k = 0; k < 3; k++) due(w.on(k), 1);
    }

    void p22_laterCallsDoNotChangeIt() {
        begin("5ab 3c 1ab");
        w.call(1, 0);
        w.keep(0);
        w.call(1, 0);
        w.mend(1, 0, 'a');
        w.undo(0);
        w.call(0, 1);
        due(w.on(0), 1);
        dueName(0, "ab");
        dueName(2, "a");
        due(w.mark(0, 4), 1);
        due(w.count(8), 0);
        duePerson(1, 4, 1);
        duePerson(0, 4, 0);
    }

    // ---- 23 on

    void p23_noSuchPlaceIsBad() {
        begin(TOWN);
        for (int k : NO_PLACES_TO_KEEP) refused(BAD, () -> w.on(k));
    }

    void p23_missingIsNothing() {
        begin(TOWN);
        w.keep(1);
        w.call(2, 0);
        finds(NOTHING, () -> w.on(0));
        finds(NOTHING, () -> w.on(2));
        dueName(0, "ann");
    }

    void p23_allIsAsItWas() {
        begin("5ab 3c 1ab 6a");
        w.call(1, 0);
        w.mend(1, 2, 'e');
        w.call(3, 0);
        w.keep(2);
        long kept = w.digest();
        w.call(1, 2);
        w.mend(1, 1, 'o');
        due(w.on(2), 3);
        due(w.digest(), kept);
    }

    void p23_rowsTextsWayPriceStay() {
        begin(TOWN);
        w.keep(0);
        lay(0, 4);
        write(1, "x");
        w.way(2);
        w.price(9);
        w.on(0);
        dueRow(0, 4);
        due(w.put(1, 0, 'y'), 1000 + 'x');
        due(w.way(0), 2);
        due(w.price(0), 9);
    }

    void p23_callsOfAnotherWayAreAsTheyWere() {
        begin("1xay 1b");
        w.way(2);
        w.call(1, 0);
        w.keep(0);
        w.way(0);
        w.undo(0);
        w.on(0);
        dueName(0, "xy");
        w.way(1);
        w.undo(1);
        dueName(0, "xy");
    }

    void p23_otherCallsAndMendingsSinceAreGone() {
        begin("1xay 3bb");
        w.way(2);
        w.call(1, 0);
        w.mend(1, 0, 'e');
        w.keep(0);
        w.undo(0);
        w.way(0);
        w.price(7);
        w.mend(1, 0, 'u');
        w.call(1, 0);
        w.keep(1);
        due(w.on(0), 2);
        dueName(0, "xye");
        due(w.count(8), 3);
        due(w.on(1), 2);
        dueName(0, "xay");
        due(w.count(8), 7);
    }

    void p23_keptTownsStay() {
        begin(TOWN);
        w.keep(0);
        w.call(2, 0);
        w.keep(1);
        due(w.on(0), 0);
        due(w.count(5), 2);
        due(w.on(1), 1);
        due(w.on(1), 1);
        due(w.count(5), 2);
    }

    void p23_goingOnDoesNotChangeWhatIsKept() {
        begin(TOWN);
        w.keep(0);
        w.on(0);
        w.call(2, 0);
        w.call(2, 1);
        due(w.on(0), 0);
        due(w.count(1), 0);
        dueName(0, "anna");
    }

    void p23_itCanBeUndone() {
        begin(TOWN);
        w.call(2, 0);
        w.call(2, 4);
        w.keep(0);
        w.undo(0);
        w.on(0);
        refused(BAD, () -> w.undo(3));
        due(w.undo(1), 1);
        dueName(0, "ann");
        due(w.undo(0), 1);
        dueName(0, "anna");
    }

    /** A TOWN with twelve CALLS and mendings, each unlike the one ahead, kept in place 1. */
    private WornNames keptTwelve() {
        w = new WornNames();
        begin(TOWN);
        w.call(2, 0);
        w.call(2, 6);
        w.mend(2, 4, 's');
        w.way(1);
        w.call(0, 4);
        w.call(6, 2);
        w.mend(2, 5, 'e');
        w.call(1, 0);
        w.way(2);
        w.call(4, 5);
        w.mend(2, 2, 'b');
        w.call(5, 2);
        w.price(7);
        w.mend(2, 0, 'i');
        w.way(0);
        w.call(4, 2);
        due(w.keep(1), 12);
        return w;
    }

    void p23_twelveOverTwelveOthers() {
        WornNames twin = keptTwelve();
        keptTwelve();
        w.undo(0);
        callTimes(12, 1, 2);
        due(w.on(1), 12);
        dueName(0, "anni");
        dueName(2, "ela");
        dueName(4, "carlas");
        dueName(5, "crae");
        due(w.count(8), 12);
        due(w.digest(), twin.digest());
        for (int n = 11; n >= 0; n--) {
            due(w.undo(n), 1);
            twin.undo(n);
            due(w.digest(), twin.digest());
        }
    }

    void p23_withSixtyItIsFull() {
        begin("2a 1b");
        callTimes(60, 0, 1);
        w.keep(0);
        w.undo(0);
        due(w.on(0), 60);
        refused(FULL, () -> w.call(0, 1));
    }

    void p23_askedAndFindingsStay() {
        begin(TOWN);
        w.keep(0);
        w.person(4, 1);
        w.at(0, 0);
        w.on(0);
        due(w.asked(), 5);
        due(w.finding(), NOTHING);
        due(w.findings(NOTHING), 1);
    }
}
