/** Edges of promises 1 to 9: a new object, ROWS, TEXTS. */
public final class EdgesOfRowsTest extends Edges {
    public static void main(String[] args) {
        new EdgesOfRowsTest().run(1, 9);
    }

    // ---- 1 a new object

    void p01_noRowsAtFirst() {
        for (int r = 0; r < 6; r++) {
            due(w.tear(r), FINDING);
            due(w.finding(), NOTHING);
        }
        due(w.count(6), 0);
    }

    void p01_noTextsAtFirst() {
        for (int t = 0; t < 4; t++) {
            due(w.fault(t), FINDING);
            due(w.finding(), NOTHING);
        }
        due(w.count(7), 0);
    }

    void p01_noPeopleAtFirst() {
        due(w.count(0), 0);
        refused(BAD, () -> w.person(0, 0));
        refused(BAD, () -> w.letter(0, 0));
        refused(BAD, () -> w.alike(0));
        refused(BAD, () -> w.call(0, 1));
        refused(BAD, () -> w.lasts(0));
    }

    void p01_noKeptTownsAtFirst() {
        for (int k = 0; k < 3; k++) {
            due(w.on(k), FINDING);
            due(w.finding(), NOTHING);
        }
        due(w.count(5), 0);
    }

    void p01_wayIsNoughtAtFirst() {
        due(w.way(1), 0);
    }

    void p01_priceIsThreeAtFirst() {
        due(w.price(1), 3);
    }

    void p01_twoObjectsShareNothing() {
        WornNames other = new WornNames();
        long before = other.digest();
        begin(TOWN);
        w.row(0, 3);
        w.way(2);
        w.price(9);
        w.call(2, 0);
        w.keep(0);
        w.at(5, 0);
        due(other.digest(), before);
        due(other.finding(), 0);
        due(other.findings(NOTHING), 0);
    }

    // ---- 2 row

    void p02_noIntsAreARow() {
        due(w.row(0, 0), 0);
        due(w.count(6), 1);
        finds(BEYOND, () -> w.at(0, 0));
    }

    void p02_fortyInts() {
        due(w.row(5, 40), 40);
        dueAsked(w.lay(5, 39, 1), 1, 0);
        finds(BEYOND, () -> w.at(5, 40));
    }

    void p02_above40IsBad() {
        refused(BAD, () -> w.row(0, 41));
        refused(BAD, () -> w.row(0, HIGH));
    }

    void p02_belowNoughtIsSize() {
        finds(SIZE, () -> w.row(0, -1));
        finds(SIZE, () -> w.row(0, LOW));
    }

    void p02_noSuchRowIsBad() {
        for (int r : NO_ROWS) refused(BAD, () -> w.row(r, 1));
    }

    void p02_badIsAheadOfSize() {
        for (int r : NO_ROWS) refused(BAD, () -> w.row(r, -1));
    }

    void p02_allAreNoughtAnew() {
        lay(0, 7, 8, 9);
        due(w.row(0, 2), 2);
        dueRow(0, 0, 0);
        due(w.row(0, 4), 4);
        dueRow(0, 0, 0, 0, 0);
        due(w.count(6), 1);
    }

    void p02_refusedTheOldOneStays() {
        lay(0, 7, 8);
        finds(SIZE, () -> w.row(0, -1));
        refused(BAD, () -> w.row(0, 41));
        dueRow(0, 7, 8);
    }

    // ---- 3 lay

    void p03_firstAndLastPlace() {
        w.row(0, 40);
        dueAsked(w.lay(0, 0, 5), 1, 0);
        dueAsked(w.lay(0, 39, 6), 1, 0);
        dueAsked(w.lay(0, 0, 7), 1, 5);
        dueAsked(w.lay(0, 39, 8), 1, 6);
        dueAsked(w.at(0, 1), 1, 0);
    }

    void p03_lowestAndHighestInt() {
        w.row(0, 1);
        dueAsked(w.lay(0, 0, LOW), 1, 0);
        dueAsked(w.lay(0, 0, HIGH), 1, LOW);
        dueAsked(w.lay(0, 0, 0), 1, HIGH);
    }

    void p03_behindTheLastIsBeyond() {
        lay(0, 1, 2);
        finds(BEYOND, () -> w.lay(0, 2, 9));
        finds(BEYOND, () -> w.lay(0, HIGH, 9));
    }

    void p03_belowNoughtIsBeyond() {
        lay(0, 1, 2);
        finds(BEYOND, () -> w.lay(0, -1, 9));
        finds(BEYOND, () -> w.lay(0, LOW, 9));
    }

    void p03_ofNoneIsBeyond() {
        w.row(0, 0);
        finds(BEYOND, () -> w.lay(0, 0, 9));
    }

    void p03_aPlaceOfALongerRowBeforeIsBeyond() {
        w.row(0, 5);
        w.row(0, 2);
        finds(BEYOND, () -> w.lay(0, 3, 9));
    }

    void p03_missingIsNothing() {
        finds(NOTHING, () -> w.lay(0, 0, 9));
        w.row(0, 1);
        w.tear(0);
        finds(NOTHING, () -> w.lay(0, 0, 9));
    }

    void p03_nothingIsAheadOfBeyond() {
        finds(NOTHING, () -> w.lay(0, -1, 9));
        finds(NOTHING, () -> w.lay(0, 40, 9));
    }

    void p03_noSuchRowIsBad() {
        for (int r : NO_ROWS) refused(BAD, () -> w.lay(r, 0, 9));
    }

    void p03_badIsAheadOfNothingAndBeyond() {
        for (int r : NO_ROWS) refused(BAD, () -> w.lay(r, -1, 9));
    }

    // ---- 4 at

    void p04_firstAndLastPlace() {
        w.row(0, 40);
        w.lay(0, 0, LOW);
        w.lay(0, 39, HIGH);
        dueAsked(w.at(0, 0), 1, LOW);
        dueAsked(w.at(0, 39), 1, HIGH);
    }

    void p04_behindTheLastIsBeyond() {
        lay(0, 1, 2);
        finds(BEYOND, () -> w.at(0, 2));
        finds(BEYOND, () -> w.at(0, HIGH));
    }

    void p04_belowNoughtIsBeyond() {
        lay(0, 1, 2);
        finds(BEYOND, () -> w.at(0, -1));
        finds(BEYOND, () -> w.at(0, LOW));
    }

    void p04_ofNoneIsBeyond() {
        w.row(0, 0);
        finds(BEYOND, () -> w.at(0, 0));
    }

    void p04_missingIsNothing() {
        finds(NOTHING, () -> w.at(5, 0));
        w.row(5, 1);
        w.tear(5);
        finds(NOTHING, () -> w.at(5, 0));
    }

    void p04_nothingIsAheadOfBeyond() {
        finds(NOTHING, () -> w.at(5, -1));
        finds(NOTHING, () -> w.at(5, 40));
    }

    void p04_noSuchRowIsBad() {
        for (int r : NO_ROWS) refused(BAD, () -> w.at(r, 0));
    }

    void p04_badIsAheadOfNothingAndBeyond() {
        for (int r : NO_ROWS) refused(BAD, () -> w.at(r, -1));
    }

    // ---- 5 tear

    void p05_tornIsMissing() {
        w.row(0, 40);
        w.row(5, 1);
        due(w.tear(0), 1);
        due(w.tear(5), 1);
        due(w.count(6), 0);
        finds(NOTHING, () -> w.at(0, 0));
    }

    void p05_missingIsNothing() {
        finds(NOTHING, () -> w.tear(0));
        w.row(0, 2);
        w.tear(0);
        finds(NOTHING, () -> w.tear(0));
    }

    void p05_aRowOfNoneIsTorn() {
        w.row(0, 0);
        due(w.tear(0), 1);
    }

    void p05_noSuchRowIsBad() {
        for (int r : NO_ROWS) refused(BAD, () -> w.tear(r));
    }

    void p05_onlyThatOneIsTorn() {
        lay(0, 1);
        lay(1, 2);
        w.tear(0);
        dueRow(1, 2);
    }

    // ---- 6 copy

    void p06_allOfForty() {
        w.row(0, 40);
        w.lay(0, 0, 4);
        w.lay(0, 39, 5);
        w.row(1, 40);
        due(w.copy(0, 0, 1, 0, 40), 1);
        dueAsked(w.at(1, 0), 1, 4);
        dueAsked(w.at(1, 39), 1, 5);
    }

    void p06_theLastPlacesOfForty() {
        w.row(0, 40);
        w.row(1, 40);
        w.lay(0, 39, 5);
        w.lay(0, 20, 7);
        due(w.copy(0, 39, 1, 38, 1), 1);
        due(w.copy(0, 20, 1, 39, 1), 1);
        dueAsked(w.at(1, 38), 1, 5);
        dueAsked(w.at(1, 39), 1, 7);
    }

    void p06_ontoItselfForward() {
        lay(0, 1, 2, 3, 4, 5);
        due(w.copy(0, 0, 0, 1, 4), 1);
        dueRow(0, 1, 1, 2, 3, 4);
    }

    void p06_ontoItselfBackward() {
        lay(0, 1, 2, 3, 4, 5);
        due(w.copy(0, 1, 0, 0, 4), 1);
        dueRow(0, 2, 3, 4, 5, 5);
    }

    void p06_noPlacesChangeNothing() {
        lay(0, 1, 2);
        lay(1, 3);
        long before = w.digest();
        due(w.copy(0, 0, 1, 0, 0), 1);
        due(w.digest(), before);
    }

    void p06_noPlacesBehindTheLast() {
        lay(0, 1, 2);
        w.row(1, 0);
        due(w.copy(0, 2, 1, 0, 0), 1);
        due(w.copy(1, 0, 0, 2, 0), 1);
    }

    void p06_noPlacesFurtherBehindAreBeyond() {
        lay(0, 1, 2);
        lay(1, 3);
        finds(BEYOND, () -> w.copy(0, 3, 1, 0, 0));
        finds(BEYOND, () -> w.copy(0, 0, 1, 2, 0));
    }

    void p06_oneTooManyFromIsBeyond() {
        lay(0, 1, 2);
        w.row(1, 9);
        due(w.copy(0, 0, 1, 0, 2), 1);
        finds(BEYOND, () -> w.copy(0, 0, 1, 0, 3));
        finds(BEYOND, () -> w.copy(0, 1, 1, 0, 2));
    }

    void p06_oneTooManyToIsBeyond() {
        w.row(0, 9);
        lay(1, 1, 2);
        due(w.copy(0, 0, 1, 0, 2), 1);
        finds(BEYOND, () -> w.copy(0, 0, 1, 0, 3));
        finds(BEYOND, () -> w.copy(0, 0, 1, 1, 2));
    }

    void p06_aPlaceBelowNoughtIsBeyond() {
        lay(0, 1, 2);
        lay(1, 3, 4);
        finds(BEYOND, () -> w.copy(0, -1, 1, 0, 1));
        finds(BEYOND, () -> w.copy(0, 0, 1, -1, 1));
        finds(BEYOND, () -> w.copy(0, LOW, 1, 0, 0));
        finds(BEYOND, () -> w.copy(0, 0, 1, LOW, 0));
    }

    void p06_placesThatWrapAroundAreBeyond() {
        lay(0, 1, 2);
        lay(1, 3, 4);
        finds(BEYOND, () -> w.copy(0, 1, 1, 0, HIGH));
        finds(BEYOND, () -> w.copy(0, 0, 1, 1, HIGH));
        finds(BEYOND, () -> w.copy(0, HIGH, 1, 0, 1));
        finds(BEYOND, () -> w.copy(0, 0, 1, HIGH, 2));
        finds(BEYOND, () -> w.copy(0, HIGH, 1, HIGH, HIGH));
    }

    void p06_belowNoughtIsSize() {
        lay(0, 1, 2);
        finds(SIZE, () -> w.copy(0, 0, 0, 0, -1));
        finds(SIZE, () -> w.copy(0, 0, 0, 0, LOW));
    }

    void p06_eitherMissingIsNothing() {
        w.row(0, 1);
        finds(NOTHING, () -> w.copy(0, 0, 1, 0, 1));
        finds(NOTHING, () -> w.copy(1, 0, 0, 0, 1));
        finds(NOTHING, () -> w.copy(1, 0, 1, 0, 0));
    }

    void p06_aTornRowIsNothing() {
        w.row(0, 2);
        w.row(1, 2);
        w.tear(1);
        finds(NOTHING, () -> w.copy(0, 0, 1, 0, 1));
        finds(NOTHING, () -> w.copy(1, 0, 0, 0, 1));
        finds(NOTHING, () -> w.copy(1, 0, 0, 0, 3));
    }

    void p06_sizeIsAheadOfNothing() {
        finds(SIZE, () -> w.copy(0, 0, 1, 0, -1));
    }

    void p06_nothingIsAheadOfBeyond() {
        w.row(0, 1);
        finds(NOTHING, () -> w.copy(0, 9, 1, 0, 1));
        finds(NOTHING, () -> w.copy(1, 0, 0, -1, 1));
    }

    void p06_noSuchRowIsBad() {
        w.row(0, 1);
        for (int r : NO_ROWS) refused(BAD, () -> w.copy(r, 0, 0, 0, 1));
        for (int r : NO_ROWS) refused(BAD, () -> w.copy(0, 0, r, 0, 1));
    }

    void p06_badIsAheadOfSize() {
        refused(BAD, () -> w.copy(6, 0, 0, 0, -1));
        refused(BAD, () -> w.copy(0, 0, -1, 0, -1));
    }

    // ---- 7 mean

    void p07_ofNoneIsNought() {
        w.row(0, 0);
        finds(NOUGHT, () -> w.mean(0));
    }

    void p07_isCutTowardsNought() {
        lay(0, 2, 3);
        dueAsked(w.mean(0), 1, 2);
        lay(0, -2, -3);
        dueAsked(w.mean(0), 1, -2);
        lay(0, 0, 0, -2);
        dueAsked(w.mean(0), 1, 0);
    }

    void p07_sumBeyondAnInt() {
        lay(0, HIGH, HIGH, HIGH);
        dueAsked(w.mean(0), 1, HIGH);
        lay(0, LOW, LOW);
        dueAsked(w.mean(0), 1, LOW);
        lay(0, HIGH, HIGH, LOW);
        dueAsked(w.mean(0), 1, 715827882);
    }

    void p07_ofForty() {
        w.row(0, 40);
        for (int i = 0; i < 40; i++) w.lay(0, i, LOW);
        dueAsked(w.mean(0), 1, LOW);
    }

    void p07_ofOne() {
        lay(0, -9);
        dueAsked(w.mean(0), 1, -9);
    }

    void p07_missingIsNothing() {
        finds(NOTHING, () -> w.mean(5));
    }

    void p07_aTornRowIsNothing() {
        w.row(5, 2);
        w.tear(5);
        finds(NOTHING, () -> w.mean(5));
        w.row(5, 0);
        w.tear(5);
        finds(NOTHING, () -> w.mean(5));
    }

    void p07_noSuchRowIsBad() {
        for (int r : NO_ROWS) refused(BAD, () -> w.mean(r));
    }

    // ---- 8 text

    void p08_noBytesAreAText() {
        due(w.text(0, 0), 0);
        due(w.count(7), 1);
        finds(BEYOND, () -> w.put(0, 0, 97));
    }

    void p08_eightyBlanks() {
        due(w.text(3, 80), 80);
        due(w.put(3, 0, 97), 1032);
        due(w.put(3, 79, 97), 1032);
        finds(BEYOND, () -> w.put(3, 80, 97));
    }

    void p08_above80IsBad() {
        refused(BAD, () -> w.text(0, 81));
        refused(BAD, () -> w.text(0, HIGH));
    }

    void p08_belowNoughtIsSize() {
        finds(SIZE, () -> w.text(0, -1));
        finds(SIZE, () -> w.text(0, LOW));
    }

    void p08_noSuchTextIsBad() {
        for (int t : NO_TEXTS) refused(BAD, () -> w.text(t, 1));
    }

    void p08_badIsAheadOfSize() {
        for (int t : NO_TEXTS) refused(BAD, () -> w.text(t, -1));
    }

    void p08_allAreBlanksAnew() {
        write(0, "abc");
        due(w.text(0, 2), 2);
        due(w.put(0, 1, 'x'), 1032);
        due(w.text(0, 3), 3);
        due(w.put(0, 1, 'x'), 1032);
        due(w.put(0, 2, 'x'), 1032);
        due(w.count(7), 1);
    }

    void p08_refusedTheOldOneStays() {
        write(0, "ab");
        finds(SIZE, () -> w.text(0, -1));
        refused(BAD, () -> w.text(0, 81));
        due(w.put(0, 1, 'x'), 1000 + 'b');
    }

    // ---- 9 put

    void p09_firstAndLastByte() {
        w.text(0, 80);
        due(w.put(0, 0, 1), 1032);
        due(w.put(0, 79, 2), 1032);
        due(w.put(0, 0, 3), 1001);
        due(w.put(0, 79, 4), 1002);
        due(w.put(0, 1, 5), 1032);
    }

    void p09_isCutToAByte() {
        int[] put = {127, 128, 255, 256, 353, -1, -128, -129, HIGH, LOW, LOW + 1};
        int[] was = {127, -128, -1, 0, 97, -1, -128, 127, -1, 0, 1};
        w.text(0, 1);
        w.put(0, 0, 0);
        for (int i = 0; i < put.length; i++) {
            w.put(0, 0, put[i]);
            due(w.put(0, 0, 0), 1000 + was[i]);
        }
    }

    void p09_whatIsCutCanBeASign() {
        w.text(0, 2);
        w.put(0, 0, 256 + '1');
        w.put(0, 1, -256 + 'a');
        due(w.fault(0), NONE);
    }

    void p09_behindTheLastIsBeyond() {
        w.text(0, 2);
        finds(BEYOND, () -> w.put(0, 2, 97));
        finds(BEYOND, () -> w.put(0, HIGH, 97));
    }

    void p09_belowNoughtIsBeyond() {
        w.text(0, 2);
        finds(BEYOND, () -> w.put(0, -1, 97));
        finds(BEYOND, () -> w.put(0, LOW, 97));
    }

    void p09_missingIsNothing() {
        finds(NOTHING, () -> w.put(3, 0, 97));
    }

    void p09_nothingIsAheadOfBeyond() {
        finds(NOTHING, () -> w.put(3, -1, 97));
        finds(NOTHING, () -> w.put(3, 80, 97));
    }

    void p09_noSuchTextIsBad() {
        for (int t : NO_TEXTS) refused(BAD, () -> w.put(t, 0, 97));
    }

    void p09_badIsAheadOfNothingAndBeyond() {
        for (int t : NO_TEXTS) refused(BAD, () -> w.put(t, -1, 97));
    }

    void p09_askedStays() {
        lay(0, 7);
        w.at(0, 0);
        w.text(0, 1);
        w.put(0, 0, 97);
        due(w.asked(), 7);
    }
}
