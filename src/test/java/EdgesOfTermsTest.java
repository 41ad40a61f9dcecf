import java.util.function.IntSupplier;

/** Edges of the Terms (p00_..), which hold for many promises at once. */
public final class EdgesOfTermsTest extends Edges {
    public static void main(String[] args) {
        new EdgesOfTermsTest().run(0, 0);
    }

    void p00_constants() {
        due(WornNames.BAD, -1);
        due(WornNames.FULL, -2);
        due(WornNames.FINDING, -3);
        due(WornNames.STATE, -4);
        due(WornNames.SPENT, -6);
        due(WornNames.NONE, -9);
    }

    void p00_sixRowsAtOnce() {
        for (int r = 0; r < 6; r++) lay(r, 10 + r, 20 + r);
        due(w.count(6), 6);
        for (int r = 0; r < 6; r++) dueRow(r, 10 + r, 20 + r);
    }

    void p00_fourTextsAtOnce() {
        for (int t = 0; t < 4; t++) write(t, "1" + "abcd".charAt(t));
        due(w.count(7), 4);
        for (int t = 0; t < 4; t++) {
            due(w.town(t), 1);
            dueName(0, "abcd".substring(t, t + 1));
        }
    }

    void p00_rowsAndTextsAreNotTheSame() {
        lay(0, 7);
        finds(NOTHING, () -> w.put(0, 0, 1));
        write(1, "a");
        finds(NOTHING, () -> w.at(1, 0));
    }

    void p00_findingOneIsNothing() {
        begin("1a");
        w.tear(0);
        due(w.finding(), 1);
        w.fault(3);
        w.on(0);
        due(w.findings(1), 3);
    }

    void p00_findingTwoIsBeyond() {
        begin("1a");
        w.letter(0, 1);
        due(w.finding(), 2);
        w.put(0, 2, 1);
        due(w.findings(2), 2);
    }

    void p00_findingThreeIsUnlike() {
        begin("1a 1b");
        w.mark(0, 1);
        due(w.finding(), 3);
        write(1, "A");
        w.name(1);
        lay(0, 0);
        w.judge(0);
        due(w.findings(3), 3);
    }

    void p00_findingFourIsNought() {
        begin("4a 1b");
        w.row(0, 0);
        w.mean(0);
        due(w.finding(), 4);
        w.lasts(0);
        due(w.findings(4), 2);
    }

    void p00_findingFiveIsSize() {
        w.row(0, -1);
        due(w.finding(), 5);
        w.text(0, 0);
        w.name(0);
        due(w.findings(5), 2);
    }

    /** A TOWN with CALLS, a mending, kept TOWNS, ROWS, TEXTS, WAY, PRICE. */
    private WornNames rich() {
        w = new WornNames();
        write(0, TOWN);
        w.town(0);
        w.call(2, 4);
        w.keep(0);
        w.way(1);
        w.mend(2, 0, 'e');
        w.call(4, 6);
        w.keep(2);
        w.price(9);
        w.call(2, 1);
        lay(0, 200, 203);
        w.row(1, 0);
        w.person(4, 1);
        return w;
    }

    private void dueSameAfter(int answer, IntSupplier... calls) {
        WornNames twin = rich();
        rich();
        for (IntSupplier call : calls) due(call.getAsInt(), answer);
        due(w.asked(), twin.asked());
        due(w.digest(), twin.digest());
        for (int k : new int[] {0, 2}) {
            due(w.on(k), twin.on(k));
            due(w.digest(), twin.digest());
        }
        due(w.undo(1), twin.undo(1));
        due(w.digest(), twin.digest());
        due(w.way(0), twin.way(0));
        due(w.price(0), twin.price(0));
    }

    void p00_badChangesNothing() {
        dueSameAfter(BAD, () -> w.row(0, 41), () -> w.row(6, 1), () -> w.lay(-1, 0, 5), () -> w.tear(6),
            () -> w.copy(0, 0, 6, 0, 1), () -> w.text(0, 81), () -> w.put(4, 0, 1), () -> w.town(4), () -> w.way(3),
            () -> w.price(100), () -> w.call(0, 0), () -> w.mend(2, 0, 96), () -> w.undo(9), () -> w.undo(-1),
            () -> w.keep(3), () -> w.on(3), () -> w.unlike(13), () -> w.order(0, 6), () -> w.callers(6, 0),
            () -> w.could(2, 1, 0), () -> w.days(61, 1), () -> w.days(5, 0), () -> w.count(9), () -> w.findings(0));
    }

    void p00_stateChangesNothing() {
        dueSameAfter(STATE, () -> w.call(3, 0), () -> w.call(0, 3), () -> w.mend(2, 3, 'a'), () -> w.comes(3, 0),
            () -> w.best(3), () -> w.held(3, 0), () -> w.could(3, 0, 0), () -> w.shortest(3));
    }

    void p00_fullChangesNothing() {
        dueSameAfter(FULL, () -> w.days(60, 1), () -> w.days(57, 1));
        begin("2a 1b 3c");
        callTimes(60, 0, 1);
        refused(FULL, () -> w.call(0, 1));
        refused(FULL, () -> w.mend(2, 1, 'a'));
        refused(FULL, () -> w.days(1, 1));
        due(w.undo(60), 0);
    }

    void p00_findingsChangeNothingElse() {
        dueSameAfter(FINDING, () -> w.row(0, -1), () -> w.lay(0, 2, 5), () -> w.at(1, 0), () -> w.tear(3),
            () -> w.copy(0, 0, 1, 0, 1), () -> w.copy(0, 0, 0, 1, 2), () -> w.mean(1), () -> w.text(0, -1),
            () -> w.put(0, 40, 1), () -> w.fault(3), () -> w.town(3), () -> w.letter(0, 6), () -> w.mark(0, 1),
            () -> w.mend(0, 1, 'a'), () -> w.on(1), () -> w.lasts(3), () -> w.becomes(3, 0), () -> w.name(0),
            () -> w.judge(3), () -> w.order(3, 0), () -> w.callers(0, 0), () -> w.spare(3), () -> w.whose(0),
            () -> w.held(2, 0), () -> w.could(2, 3, 0), () -> w.crowd(0));
    }

    void p00_noneChangesNothing() {
        dueSameAfter(NONE, () -> w.fault(0), () -> w.becomes(1, 0), () -> w.order(0, 1), () -> w.spare(0));
    }

    void p00_aFindingAloneCounts() {
        rich();
        int[] often = new int[6];
        for (int f = 1; f <= 5; f++) often[f] = w.findings(f);
        w.row(0, 41);
        w.call(3, 0);
        w.days(60, 1);
        w.order(0, 1);
        for (int f = 1; f <= 5; f++) due(w.findings(f), often[f]);
    }

    void p00_theLastOf512Calls() {
        begin("2a 1b");
        for (int i = 0; i < 240; i++) {
            w.call(0, 1);
            w.undo(0);
        }
        due(w.call(0, 1), 2);
        due(w.count(1), 1);
    }
}
