/** Edges of promises 24 to 29: how NAMES WEAR, aside. */
public final class EdgesOfWearTest extends Edges {
    public static void main(String[] args) {
        new EdgesOfWearTest().run(24, 29);
    }

    // ---- 24 lasts

    void p24_nobodyIsBad() {
        begin(TOWN);
        for (int x : NOBODY) refused(BAD, () -> w.lasts(x));
    }

    void p24_aDeadOneIsNought() {
        begin(TOWN);
        finds(NOUGHT, () -> w.lasts(3));
    }

    void p24_withoutLettersIsNought() {
        begin("1a 1b 5c");
        w.call(1, 0);
        due(w.lasts(0), 0);
        callTimes(2, 1, 2);
        due(w.lasts(2), 0);
    }

    void p24_oneLetterAndSix() {
        begin("1a 1abcdef 5a 5abcdef 2a 6abcdef");
        int[] want = {1, 6, 2, 12, 1, 6};
        for (int x = 0; x < want.length; x++) due(w.lasts(x), want[x]);
    }

    void p24_aHardOneWhoseNextTimeIsTheSecond() {
        begin("5abcdef 1x 5a");
        w.call(1, 0);
        due(w.lasts(0), 11);
        w.call(1, 2);
        due(w.lasts(2), 1);
    }

    void p24_byEveryWay() {
        begin("1xabec 5ae");
        for (int way = 0; way <= 2; way++) {
            w.way(way);
            due(w.lasts(0), 5);
            due(w.lasts(1), 4);
        }
    }

    void p24_changesNothing() {
        begin(TOWN);
        long before = w.digest();
        w.lasts(4);
        due(w.digest(), before);
        due(w.asked(), 0);
    }

    // ---- 25 becomes

    void p25_oneselfIsBad() {
        begin(TOWN);
        refused(BAD, () -> w.becomes(0, 0));
    }

    void p25_nobodyIsBad() {
        begin(TOWN);
        for (int x : NOBODY) refused(BAD, () -> w.becomes(x, 0));
        for (int x : NOBODY) refused(BAD, () -> w.becomes(0, x));
    }

    void p25_badIsAheadOfNought() {
        begin(TOWN);
        refused(BAD, () -> w.becomes(3, 3));
        refused(BAD, () -> w.becomes(3, 7));
    }

    void p25_theFirstOneDeadIsNought() {
        begin(TOWN);
        finds(NOUGHT, () -> w.becomes(3, 1));
    }

    void p25_theSecondOneMayBeDead() {
        begin("1abc 4a");
        due(w.becomes(0, 1), 2);
    }

    void p25_noughtWhenItIs() {
        begin("1abc 1abc 5abc 4abc");
        due(w.becomes(0, 1), 0);
        due(w.becomes(2, 0), 0);
        due(w.becomes(0, 3), 0);
    }

    void p25_aLongerNameIsNever() {
        begin("1ab 1abc");
        refused(NONE, () -> w.becomes(0, 1));
    }

    void p25_anotherNameIsNever() {
        begin("1abc 1b");
        refused(NONE, () -> w.becomes(0, 1));
        w.way(1);
        refused(NONE, () -> w.becomes(0, 1));
        w.way(2);
        due(w.becomes(0, 1), 2);
    }

    void p25_aHardOneAtTheEndOfSix() {
        begin("5abcdef 1a 1x");
        due(w.becomes(0, 1), 10);
        w.call(2, 0);
        due(w.becomes(0, 1), 9);
    }

    void p25_ofOneWithoutLetters() {
        begin("5abcdef 1a 1x");
        w.call(2, 1);
        due(w.becomes(0, 1), 12);
        due(w.becomes(2, 1), 1);
        refused(NONE, () -> w.becomes(1, 0));
        w.call(0, 2);
        due(w.becomes(1, 2), 0);
    }

    void p25_askedStays() {
        begin("1abc 1b");
        w.person(0, 1);
        w.becomes(0, 1);
        due(w.asked(), 3);
    }

    // ---- 26 unlike

    void p26_belowNoughtOrAbove12IsBad() {
        begin(TOWN);
        for (int n : new int[] {-1, 13, LOW, HIGH}) refused(BAD, () -> w.unlike(n));
    }

    void p26_noughtTimesIsNow() {
        begin("1ab 1ab 1a");
        dueAsked(w.unlike(0), 2, 0);
        dueAsked(w.unlike(1), 1, 1);
    }

    void p26_twelveTimesWearAllOut() {
        begin("5abcdef 1b");
        dueAsked(w.unlike(11), 1, 1);
        dueAsked(w.unlike(12), 0, 2);
    }

    void p26_withoutPeople() {
        dueAsked(w.unlike(0), 0, 0);
        dueAsked(w.unlike(12), 0, 0);
    }

    void p26_theDeadAreNotCounted() {
        begin("4ab 4ac 1ab");
        dueAsked(w.unlike(0), 1, 0);
        dueAsked(w.unlike(2), 0, 1);
        begin("4ab 4ac");
        dueAsked(w.unlike(12), 0, 0);
    }

    void p26_aDeadOneAheadWithTheSameName() {
        begin("4ab 1ab 1ab");
        dueAsked(w.unlike(0), 1, 0);
    }

    void p26_whoHasNoLettersNow() {
        begin("1a 1b 1c");
        w.call(2, 0);
        dueAsked(w.unlike(0), 2, 1);
        w.call(2, 1);
        dueAsked(w.unlike(0), 1, 2);
    }

    void p26_aHardOneWhoseNextTimeIsTheSecond() {
        begin("5a 1bc");
        dueAsked(w.unlike(1), 2, 0);
        w.call(1, 0);
        dueAsked(w.unlike(1), 1, 1);
    }

    void p26_mothersNamesWearToo() {
        begin("2a 6b");
        dueAsked(w.unlike(1), 0, 2);
    }

    void p26_byEveryWay() {
        String[] towns = {"1ax 1bx", "1xa 1xb", "1axy 1xyb"};
        int[][] want = {{2, 1, 2}, {1, 2, 1}, {2, 2, 1}};
        for (int i = 0; i < towns.length; i++) {
            begin(towns[i]);
            for (int way = 0; way <= 2; way++) {
                w.way(way);
                dueAsked(w.unlike(1), want[i][way], 0);
            }
        }
    }

    void p26_changesNothing() {
        begin(TOWN);
        long before = w.digest();
        w.unlike(12);
        due(w.digest(), before);
    }

    // ---- 27 first

    void p27_noughtIsNow() {
        begin("1ab 1c 1ab");
        due(w.first(), 0);
    }

    void p27_withoutPeopleIsNever() {
        refused(NONE, () -> w.first());
    }

    void p27_ofOneIsNever() {
        begin("1ab");
        refused(NONE, () -> w.first());
    }

    void p27_ofTheDeadIsNever() {
        begin("4ab 4ab 1ab");
        refused(NONE, () -> w.first());
    }

    void p27_namesWithoutLettersAreNotAlike() {
        begin("1ab 1cd 5e");
        refused(NONE, () -> w.first());
        begin("1a 1b 1cde");
        w.call(2, 0);
        w.call(2, 1);
        refused(NONE, () -> w.first());
    }

    void p27_afterTenTimes() {
        begin("5abcdef 5auvwxy");
        due(w.first(), 10);
    }

    void p27_aHardOneWaitsForAnother() {
        begin("5abc 1abcde");
        due(w.first(), 3);
        begin("5abc 1abcd");
        due(w.first(), 1);
        begin("5abc 1abcd");
        w.call(1, 0);
        due(w.first(), 2);
    }

    void p27_byEveryWay() {
        begin("1bax 1cax");
        due(w.first(), NONE);
        w.way(1);
        due(w.first(), 1);
        w.way(2);
        due(w.first(), NONE);
        begin("1bax 1bex");
        due(w.first(), 1);
    }

    void p27_changesNothing() {
        begin("5abc 1abcd");
        long before = w.digest();
        w.first();
        due(w.digest(), before);
        due(w.asked(), 0);
    }

    // ---- 28 name

    private void dueLasts(String name, int want) {
        write(1, name);
        due(w.name(1), want);
    }

    void p28_oneLetterAndSix() {
        begin("1x");
        dueLasts("a", 1);
        dueLasts("abcdef", 6);
    }

    void p28_noneIsSize() {
        w.text(1, 0);
        finds(SIZE, () -> w.name(1));
    }

    void p28_moreThanSixIsSize() {
        write(1, "abcdefg");
        finds(SIZE, () -> w.name(1));
        w.text(1, 80);
        finds(SIZE, () -> w.name(1));
    }

    void p28_noLetterIsUnlike() {
        for (String s : new String[] {"`", "{", "A", "ab ", " ab", "1ab", "abcde" + (char) 0xe1, "" + (char) 0}) {
            write(1, s);
            finds(UNLIKE, () -> w.name(1));
        }
    }

    void p28_sizeIsAheadOfUnlike() {
        write(1, "1234567");
        finds(SIZE, () -> w.name(1));
    }

    void p28_missingIsNothing() {
        finds(NOTHING, () -> w.name(3));
    }

    void p28_noSuchTextIsBad() {
        for (int t : NO_TEXTS) refused(BAD, () -> w.name(t));
    }

    void p28_withoutPeople() {
        dueLasts("abcdef", 6);
    }

    void p28_takenAtOnceIsNought() {
        begin("1ab");
        dueLasts("ab", 0);
    }

    void p28_takenAtTheLastLetter() {
        begin("1a");
        dueLasts("abcdef", 5);
    }

    void p28_theDeadDoNotTakeIt() {
        begin("4ab 4a");
        dueLasts("ab", 2);
    }

    void p28_thoseWithoutLettersDoNotTakeIt() {
        begin("1a 1b");
        w.call(1, 0);
        dueLasts("a", 1);
    }

    void p28_byEveryWay() {
        begin("1xy");
        dueLasts("xya", 1);
        dueLasts("axy", 3);
        w.way(1);
        dueLasts("xya", 3);
        dueLasts("axy", 1);
        w.way(2);
        dueLasts("xaey", 2);
    }

    void p28_changesNothing() {
        begin("1ab");
        write(1, "abc");
        w.person(0, 1);
        long before = w.digest();
        due(w.name(1), 1);
        due(w.digest(), before);
        due(w.asked(), 2);
    }

    // ---- 29 best

    void p29_nobodyIsBad() {
        begin(TOWN);
        for (int x : NOBODY) refused(BAD, () -> w.best(x));
    }

    void p29_aDeadOneIsState() {
        begin(TOWN);
        refused(STATE, () -> w.best(3));
    }

    void p29_sixLettersAreState() {
        begin("1abcdef 1uvwxy 4abcdef");
        refused(STATE, () -> w.best(0));
        dueAsked(w.best(1), 'a', 6);
        refused(STATE, () -> w.best(2));
    }

    void p29_othersAsTheyAreNow() {
        begin("1b 3x 1bc");
        dueAsked(w.best(0), 'a', 2);
        w.call(1, 2);
        dueAsked(w.best(0), 'a', 1);
        w.mend(1, 2, 'a');
        dueAsked(w.best(0), 'b', 2);
    }

    void p29_sixLettersByMendingAndFiveByWearing() {
        begin("3abcde");
        w.mend(0, 0, 'f');
        refused(STATE, () -> w.best(0));
        begin("1abcdef 1b");
        refused(STATE, () -> w.best(0));
        w.call(1, 0);
        dueAsked(w.best(0), 'a', 6);
    }

    void p29_withoutLetters() {
        begin("1b 1a");
        w.call(1, 0);
        dueAsked(w.best(0), 'b', 1);
    }

    void p29_theFirstOfAllThatLastAsLong() {
        begin("1x 1x");
        dueAsked(w.best(0), 'a', 1);
    }

    void p29_sixOthersTakeSixLetters() {
        begin("1x 1xa 1xb 1xc 1xd 1xe 1xf");
        dueAsked(w.best(0), 'g', 2);
    }

    void p29_onesOwnNameDoesNotTakeIt() {
        begin("1ab 1x");
        dueAsked(w.best(0), 'a', 3);
    }

    void p29_theDeadDoNotTakeIt() {
        begin("1x 4xa 4x");
        dueAsked(w.best(0), 'a', 2);
    }

    void p29_ofAHardOneAsNameTells() {
        begin("5x 1b");
        dueAsked(w.best(0), 'a', 2);
        w.call(1, 0);
        dueAsked(w.best(0), 'a', 2);
    }

    void p29_byEveryWay() {
        begin("1xy 1ya 1yb");
        dueAsked(w.best(0), 'a', 3);
        w.way(1);
        dueAsked(w.best(0), 'c', 3);
        begin("1xy 1xyb");
        w.way(2);
        dueAsked(w.best(0), 'a', 3);
        begin("1xy 1x");
        dueAsked(w.best(0), 'a', 2);
    }

    void p29_changesNothing() {
        begin(TOWN);
        long before = w.digest();
        w.best(0);
        due(w.digest(), before);
    }
}
