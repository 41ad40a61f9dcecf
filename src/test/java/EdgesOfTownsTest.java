/** Edges of promises 10 to 16: FAULTS, TOWNS, PEOPLE, WAY, PRICE. */
public final class EdgesOfTownsTest extends Edges {
    public static void main(String[] args) {
        new EdgesOfTownsTest().run(10, 16);
    }

    // ---- 10 fault

    private void dueFault(String town, int want) {
        write(0, town);
        due(w.fault(0), want);
    }

    void p10_noBytesHaveNoFault() {
        dueFault("", NONE);
    }

    void p10_blanksAloneHaveNoFault() {
        dueFault(" ", NONE);
        w.text(1, 80);
        due(w.fault(1), NONE);
    }

    void p10_blanksAheadBetweenBehind() {
        dueFault("   1a", NONE);
        dueFault("1a    2b", NONE);
        dueFault("1a   ", NONE);
        dueFault(" 1a 2b ", NONE);
    }

    void p10_noBlanksAreEnoughBetween() {
        dueFault("1a2b3c", NONE);
    }

    void p10_aBlankBehindTheSignIsAFault() {
        dueFault("1 a", 1);
        dueFault("1a 2 b", 4);
    }

    void p10_aBlankWithinANameIsAFaultAtTheNextLetter() {
        dueFault("1an na", 4);
    }

    void p10_signsAreOneToSix() {
        dueFault("1a 2a 3a 4a 5a 6a", NONE);
        dueFault("0a", 0);
        dueFault("7a", 0);
        dueFault("1a 0a", 3);
        dueFault("1a 7a", 3);
    }

    void p10_noSignIsAFaultAtItsPlace() {
        dueFault("a", 0);
        dueFault("  anna", 2);
        dueFault("1a ?b", 3);
    }

    void p10_noLetterIsAFaultAtItsPlace() {
        dueFault("1a`", 2);
        dueFault("1a{", 2);
        dueFault("1az", NONE);
        dueFault("1aA", 2);
        dueFault("1`", 1);
        dueFault("1{", 1);
        dueFault("1Z", 1);
    }

    void p10_bytesBelowNoughtAreAFault() {
        dueFault("1a" + (char) 0xe1, 2);
        dueFault("1a" + (char) 0x80, 2);
        dueFault("" + (char) 0xa0, 0);
        dueFault("1a" + (char) 0, 2);
        dueFault("" + (char) 9, 0);
    }

    void p10_aSeventhLetterIsAFaultAtItsPlace() {
        dueFault("1abcdef", NONE);
        dueFault("1abcdefg", 7);
        dueFault("1a 1abcdefgh", 10);
    }

    void p10_anEighthOneIsAFaultAtTheSign() {
        dueFault("1a 1a 1a 1a 1a 1a 1a", NONE);
        dueFault("1a 1a 1a 1a 1a 1a 1a ", NONE);
        dueFault("1a 1a 1a 1a 1a 1a 1a 1a", 21);
        dueFault("1a1a1a1a1a1a1a1", 14);
    }

    void p10_noLetterAtAllIsAFaultBehindTheSign() {
        dueFault("1", 1);
        dueFault("1a 2", 4);
        dueFault("12a", 1);
        dueFault("1  ", 1);
    }

    void p10_behindTheSignAtTheVeryEnd() {
        w.text(0, 80);
        w.put(0, 79, '1');
        due(w.fault(0), 80);
    }

    void p10_theFirstFaultIsTold() {
        dueFault("1a ? 1abcdefg 7", 3);
        dueFault("1abcdefg ?", 7);
    }

    void p10_bytesBehindAShorterTextAreNotRead() {
        write(0, "1a ???");
        w.text(0, 3);
        w.put(0, 0, '1');
        w.put(0, 1, 'a');
        due(w.fault(0), NONE);
    }

    void p10_changesNothing() {
        begin("1a 2b");
        write(1, "3c");
        refused(NONE, () -> w.fault(1));
        write(1, "9");
        long before = w.digest();
        due(w.fault(1), 0);
        due(w.digest(), before);
        due(w.finding(), 0);
    }

    void p10_missingIsNothing() {
        finds(NOTHING, () -> w.fault(3));
    }

    void p10_noSuchTextIsBad() {
        for (int t : NO_TEXTS) refused(BAD, () -> w.fault(t));
    }

    // ---- 11 town

    void p11_noPeople() {
        w.text(0, 0);
        due(w.town(0), 0);
        w.text(0, 80);
        due(w.town(0), 0);
        due(w.count(0), 0);
        refused(BAD, () -> w.person(0, 0));
    }

    void p11_sevenPeopleOfSixLetters() {
        begin("1abcdef 2bcdefg 3cdefgh 4defghi 5efghij 6fghijk 1uvwxyz");
        due(w.count(0), 7);
        due(w.count(2), 42);
        dueName(0, "abcdef");
        dueName(6, "uvwxyz");
    }

    void p11_anEighthOneIsState() {
        begin("1a");
        write(1, "1a 1a 1a 1a 1a 1a 1a 1a");
        refused(STATE, () -> w.town(1));
    }

    void p11_aFaultIsState() {
        begin(TOWN);
        w.call(2, 0);
        w.keep(0);
        for (String s : new String[] {"1a 2", "x", "1abcdefg", "1a 7b"}) {
            write(1, s);
            refused(STATE, () -> w.town(1));
        }
        due(w.undo(0), 1);
        due(w.on(0), 1);
        dueName(0, "ann");
    }

    void p11_missingIsNothing() {
        begin("1a");
        finds(NOTHING, () -> w.town(1));
        due(w.count(0), 1);
    }

    void p11_noSuchTextIsBad() {
        begin("1a");
        for (int t : NO_TEXTS) refused(BAD, () -> w.town(t));
    }

    void p11_noCallsNothingPaidAnew() {
        begin(TOWN);
        w.call(2, 0);
        w.call(2, 1);
        w.mend(2, 0, 'a');
        due(w.town(0), 7);
        due(w.count(1), 0);
        due(w.count(8), 0);
        for (int what = 2; what <= 4; what++) {
            duePerson(0, what, 0);
            duePerson(2, what, 0);
        }
        dueName(0, "anna");
        due(w.upper(), 0);
        due(w.lower(), 1);
        refused(BAD, () -> w.undo(1));
    }

    void p11_aHardOneBeginsAnew() {
        begin("5ab 1c");
        w.call(1, 0);
        due(w.mark(0, 4), 1);
        w.town(0);
        due(w.mark(0, 4), 2);
        w.call(1, 0);
        dueName(0, "ab");
    }

    void p11_keptTownsGo() {
        begin(TOWN);
        for (int k = 0; k < 3; k++) w.keep(k);
        due(w.count(5), 3);
        w.town(0);
        due(w.count(5), 0);
        for (int k = 0; k < 3; k++) {
            int place = k;
            finds(NOTHING, () -> w.on(place));
        }
    }

    void p11_keptTownsGoWithoutPeopleToo() {
        begin(TOWN);
        w.keep(1);
        w.text(0, 0);
        w.town(0);
        due(w.count(5), 0);
        finds(NOTHING, () -> w.on(1));
    }

    void p11_wayAndPriceStay() {
        w.way(2);
        w.price(99);
        begin("1a");
        due(w.way(0), 2);
        due(w.price(0), 99);
    }

    void p11_aRoomOfSixtyIsThereAgain() {
        begin("2a 1b");
        callTimes(60, 0, 1);
        refused(FULL, () -> w.call(0, 1));
        w.town(0);
        due(w.call(0, 1), 2);
    }

    void p11_peopleOfALargerTownBeforeAreGone() {
        begin("1ab 1ab 2ac 6ad 2ae 4af 1ag");
        w.unlike(0);
        begin("1ab 1cd 6x");
        due(w.count(0), 3);
        due(w.count(2), 5);
        due(w.count(3), 1);
        due(w.count(4), 0);
        dueAsked(w.unlike(0), 3, 0);
        dueAsked(w.unlike(12), 0, 3);
        due(w.first(), NONE);
        due(w.comes(2, 0), 1);
        due(w.alike(0), 1);
        due(w.shortest(0), 1);
        write(1, "a");
        dueAsked(w.crowd(1), 1, 0);
        dueAsked(w.whose(1), 1, 1);
    }

    void p11_theTextMayChangeBehindIt() {
        begin("1anna");
        w.text(0, 0);
        due(w.count(0), 1);
        dueName(0, "anna");
    }

    // ---- 12 person

    void p12_whatIsNoughtToFour() {
        begin("1b 1c 5ab 1ab");
        w.call(0, 2);
        w.call(2, 1);
        duePerson(2, 0, 4);
        duePerson(2, 1, 2);
        duePerson(2, 2, 1);
        duePerson(2, 3, 0);
        duePerson(2, 4, 1);
        duePerson(3, 3, 1);
    }

    void p12_whatBelowNoughtOrAboveFourIsBad() {
        begin(TOWN);
        for (int what : new int[] {-1, 5, LOW, HIGH}) refused(BAD, () -> w.person(0, what));
    }

    void p12_nobodyIsBad() {
        begin(TOWN);
        for (int x : NOBODY) refused(BAD, () -> w.person(x, 0));
        duePerson(6, 0, 0);
    }

    void p12_oneOfALargerTownBeforeIsBad() {
        begin("1a 1b 1c");
        begin("1a 1b");
        refused(BAD, () -> w.person(2, 0));
    }

    void p12_noLettersAreNought() {
        begin("1a 1b");
        w.call(1, 0);
        duePerson(0, 1, 0);
    }

    void p12_everyKind() {
        begin("1a 2a 3a 4a 5a 6a");
        for (int x = 0; x < 6; x++) duePerson(x, 0, x);
    }

    // ---- 13 letter

    void p13_firstAndLastOfSix() {
        begin("1abcdez");
        due(w.letter(0, 0), 'a');
        due(w.letter(0, 5), 'z');
    }

    void p13_belowNoughtIsBad() {
        begin(TOWN);
        refused(BAD, () -> w.letter(0, -1));
        refused(BAD, () -> w.letter(0, LOW));
    }

    void p13_behindTheLastIsBeyond() {
        begin("1abcdez 1ann");
        finds(BEYOND, () -> w.letter(0, 6));
        finds(BEYOND, () -> w.letter(1, 3));
        finds(BEYOND, () -> w.letter(1, 40));
        finds(BEYOND, () -> w.letter(1, HIGH));
    }

    void p13_withoutLettersIsBeyond() {
        begin("1a 1b");
        w.call(1, 0);
        finds(BEYOND, () -> w.letter(0, 0));
    }

    void p13_aWornOffLetterIsBeyond() {
        begin("1ab 1b");
        w.call(1, 0);
        due(w.letter(0, 0), 'a');
        finds(BEYOND, () -> w.letter(0, 1));
    }

    void p13_nobodyIsBad() {
        begin(TOWN);
        for (int x : NOBODY) refused(BAD, () -> w.letter(x, 0));
    }

    void p13_badIsAheadOfBeyond() {
        begin(TOWN);
        for (int x : NOBODY) refused(BAD, () -> w.letter(x, 9));
    }

    // ---- 14 mark

    void p14_kindNoughtIsBad() {
        begin(TOWN);
        refused(BAD, () -> w.mark(0, 0));
        refused(BAD, () -> w.mark(1, 0));
    }

    void p14_noKindIsBad() {
        begin(TOWN);
        for (int kind : new int[] {-1, 6, LOW, HIGH}) refused(BAD, () -> w.mark(5, kind));
    }

    void p14_nobodyIsBad() {
        begin(TOWN);
        for (int x : NOBODY) refused(BAD, () -> w.mark(x, 1));
    }

    void p14_badIsAheadOfUnlike() {
        begin(TOWN);
        refused(BAD, () -> w.mark(7, 0));
        refused(BAD, () -> w.mark(0, 6));
    }

    void p14_anotherKindIsUnlike() {
        begin("1b 2a 3a 4a 5a 6a");
        for (int x = 0; x < 6; x++) {
            for (int kind = 1; kind <= 5; kind++) {
                boolean is = x == kind || x == 5 && kind == 1;
                if (!is) {
                    int often = w.findings(UNLIKE);
                    due(w.mark(x, kind), FINDING);
                    due(w.finding(), UNLIKE);
                    due(w.findings(UNLIKE), often + 1);
                } else {
                    due(w.mark(x, kind) >= 0 ? 1 : 0, 1);
                }
            }
        }
    }

    void p14_aMotherIsNoNurse() {
        begin("1b 2a 6a");
        finds(UNLIKE, () -> w.mark(1, 5));
        due(w.mark(2, 1), 1);
    }

    void p14_aMotherAlone() {
        begin("2a 1b 4a");
        due(w.mark(0, 1), 0);
    }

    void p14_namesAsTheyAreNow() {
        begin("2ab 1abc 3x 4ab");
        due(w.mark(0, 1), 0);
        due(w.mark(3, 3), 1);
        due(w.call(2, 1), 2);
        due(w.mark(0, 1), 1);
        due(w.mark(3, 3), 2);
        due(w.call(2, 0), 3);
        due(w.mark(0, 1), 1);
        due(w.mark(3, 3), 0);
        due(w.mend(2, 1, 'b'), 1);
        due(w.mark(0, 1), 0);
        due(w.mark(3, 3), 1);
    }

    void p14_aBeginningIsNotAlike() {
        begin(TOWN);
        due(w.mark(1, 1), 0);
        due(w.mark(3, 3), 1);
    }

    void p14_aMotherAmongSixAlike() {
        begin("2a 1a 3a 5a 6a 1a 2a");
        due(w.mark(0, 1), 6);
        due(w.mark(6, 1), 6);
        due(w.mark(4, 1), 6);
    }

    void p14_aSmithWhoWasPaidNothing() {
        begin("3a 1b");
        due(w.mark(0, 2), 0);
    }

    void p14_aSmithTellsWhatWasPaidInAll() {
        begin("3a 1b 3c");
        w.mend(0, 1, 'a');
        w.mend(2, 1, 'b');
        due(w.mark(0, 2), 4);
        due(w.mark(2, 2), 4);
        w.undo(1);
        due(w.mark(2, 2), 3);
    }

    void p14_aDeadOneWithNobodysName() {
        begin("4a 4a 1b");
        due(w.mark(0, 3), 0);
    }

    void p14_aDeadOneWithTheNameOfAllOthers() {
        begin("4a 1a 2a 3a 5a 6a 4a");
        due(w.mark(0, 3), 5);
        due(w.mark(6, 3), 5);
    }

    void p14_aHardOneTellsOneOrTwo() {
        begin("5abc 1d 2e");
        due(w.mark(0, 4), 2);
        w.call(1, 0);
        due(w.mark(0, 4), 1);
        w.call(1, 0);
        due(w.mark(0, 4), 2);
        w.call(2, 0);
        due(w.mark(0, 4), 2);
    }

    void p14_aHardOneWithoutLetters() {
        begin("5a 1d");
        callTimes(2, 1, 0);
        due(w.mark(0, 4), 2);
    }

    void p14_aNurseWhoIsOneNought() {
        begin("6a 1a");
        due(w.mark(0, 5), 0);
    }

    void p14_aNurseOfADeadOneNought() {
        begin("4a 6a 1a");
        due(w.mark(1, 5), 0);
    }

    void p14_aNurseOfOneNoughtWithoutLetters() {
        begin("1a 6b 1b");
        w.call(2, 0);
        due(w.mark(1, 5), 0);
    }

    void p14_aNurseToWhomAllCome() {
        begin("1ab 6ac 1a 2ad 3ae 5af 1abcdef");
        due(w.mark(1, 5), 6);
    }

    void p14_aNurseToWhomTheDeadDoNotCome() {
        begin("1ab 6ac 4ab");
        due(w.mark(1, 5), 1);
    }

    // ---- 15 way

    void p15_nought1And2() {
        due(w.way(2), 0);
        due(w.way(1), 2);
        due(w.way(0), 1);
        due(w.way(0), 0);
    }

    void p15_belowNoughtOrAbove2IsBad() {
        w.way(2);
        for (int v : new int[] {-1, 3, LOW, HIGH}) refused(BAD, () -> w.way(v));
        due(w.way(0), 2);
    }

    // ---- 16 price

    void p16_noughtTo99() {
        due(w.price(0), 3);
        due(w.price(99), 0);
        due(w.price(5), 99);
    }

    void p16_belowNoughtOrAbove99IsBad() {
        w.price(7);
        for (int v : new int[] {-1, 100, LOW, HIGH}) refused(BAD, () -> w.price(v));
        due(w.price(0), 7);
    }
}
