/** Boundary cases of promises 1 to 9: a new object, rows, texts. */
public final class EdgesOfRowsTest {
    public static void main(String[] args) throws ReflectiveOperationException {
        Edges.run(EdgesOfRowsTest.class, 1, 9);
    }

    /** Row 0 of three ints, row 1 of two, row 2 of none; 3 to 5 missing. */
    private static GateNames rows() {
        GateNames x = new GateNames();
        Edges.fill(x, 0, 1, 2, 3);
        Edges.fill(x, 1, 8, 9);
        x.row(2, 0);
        return x;
    }

    private static int[] forty(int first) {
        int[] values = new int[40];
        for (int i = 0; i < 40; i++) {
            values[i] = first + i;
        }
        return values;
    }

    // ---- 1 a new object

    static void promise01_noRowIsThere() {
        for (int r = 0; r < 6; r++) {
            int row = r;
            Edges.finds(Edges::bare, x -> x.tear(row), Edges.NOTHING);
        }
        Edges.due("count(7)", new GateNames().count(7), 0);
    }

    static void promise01_noTextIsThere() {
        for (int t = 0; t < 4; t++) {
            int text = t;
            Edges.finds(Edges::bare, x -> x.fault(text), Edges.NOTHING);
        }
        Edges.due("count(8)", new GateNames().count(8), 0);
    }

    static void promise01_noGoerIsThere() {
        Edges.due("count(0)", new GateNames().count(0), 0);
        Edges.refused(Edges::bare, x -> x.goer(0, 0), Edges.BAD);
    }

    static void promise01_nobodyHasGoneThroughAndNoCardLiesThere() {
        GateNames x = new GateNames();
        Edges.due("how many went", x.count(1), 0);
        Edges.due("deeds", x.count(2), 0);
        Edges.due("who went last", x.count(3), Edges.NONE);
        Edges.due("those gone", x.count(4), 0);
        Edges.due("the stone", x.count(5), 0);
    }

    static void promise01_noGateIsKept() {
        for (int k = 0; k < 3; k++) {
            int place = k;
            Edges.finds(Edges::bare, x -> x.on(place), Edges.NOTHING);
        }
        Edges.due("count(9)", new GateNames().count(9), 0);
    }

    static void promise01_oneObjectIsNotAnother() {
        Edges.rich();
        Edges.due("digest() of a new one", new GateNames().digest(), Edges.bare().digest());
        Edges.due("count(0) of a new one", new GateNames().count(0), 0);
    }

    static void promise01_theConstants() {
        int[] got = {GateNames.BAD, GateNames.FULL, GateNames.FINDING, GateNames.STATE, GateNames.SPENT, GateNames.NONE};
        int[] due = {-1, -2, -3, -4, -6, -9};
        for (int k = 0; k < due.length; k++) {
            Edges.due("constant " + k, got[k], due[k]);
        }
    }

    // ---- 2 row

    static void promise02_rowsAreNumbered0To5() {
        Edges.takes(Edges::bare, 0, 5, (x, r) -> x.row(r, 1));
        Edges.badOutside(Edges::rich, 0, 5, (x, r) -> x.row(r, 1));
    }

    static void promise02_aRowHasAtMost40Ints() {
        Edges.due("row(0, 39)", new GateNames().row(0, 39), 39);
        Edges.due("row(0, 40)", new GateNames().row(0, 40), 40);
        Edges.refused(Edges::bare, x -> x.row(0, 41), Edges.BAD);
        Edges.refused(Edges::rich, x -> x.row(0, 41), Edges.BAD);
        Edges.refused(Edges::rich, x -> x.row(0, Edges.GREATEST), Edges.BAD);
    }

    static void promise02_aRowOfNoIntsIsThere() {
        GateNames x = new GateNames();
        Edges.due("row(0, 0)", x.row(0, 0), 0);
        Edges.due("count(7)", x.count(7), 1);
        Edges.rowIs(x, 0);
    }

    static void promise02_fewerThanNoneIsSize() {
        Edges.finds(Edges::bare, x -> x.row(0, -1), Edges.SIZE);
        Edges.finds(Edges::rich, x -> x.row(0, -1), Edges.SIZE);
        Edges.finds(Edges::rich, x -> x.row(5, Edges.LEAST), Edges.SIZE);
    }

    static void promise02_badComesAheadOfSize() {
        Edges.refused(Edges::rich, x -> x.row(6, -1), Edges.BAD);
        Edges.refused(Edges::rich, x -> x.row(-1, -1), Edges.BAD);
    }

    static void promise02_itsIntsAre0EachTimeItIsMade() {
        GateNames x = new GateNames();
        Edges.fill(x, 5, forty(1));
        x.row(5, 1);
        x.row(5, 40);
        Edges.rowIs(x, 5, new int[40]);
        Edges.fill(x, 5, forty(1));
        x.tear(5);
        x.row(5, 40);
        Edges.rowIs(x, 5, new int[40]);
    }

    static void promise02_otherRowsAreAsTheyWere() {
        GateNames x = rows();
        x.row(1, 40);
        Edges.rowIs(x, 0, 1, 2, 3);
        Edges.rowIs(x, 2);
        Edges.due("count(7)", x.count(7), 3);
    }

    // ---- 3 lay

    static void promise03_rowsAreNumbered0To5() {
        Edges.takes(Edges::rich, 0, 5, (x, r) -> x.lay(r, 0, 1));
    }

    static void promise03_aMissingRowIsNothing() {
        Edges.finds(EdgesOfRowsTest::rows, x -> x.lay(3, 0, 1), Edges.NOTHING);
        Edges.finds(Edges::rich, x -> x.lay(4, 0, 1), Edges.NOTHING);
    }

    static void promise03_aPlaceThatThereIsNotIsBeyond() {
        for (int place : new int[] {-1, 3, 39, 40, Edges.LEAST, Edges.GREATEST}) {
            Edges.finds(Edges::rich, x -> x.lay(0, place, 1), Edges.BEYOND);
        }
    }

    static void promise03_anEmptyRowHasNoPlace() {
        Edges.finds(Edges::rich, x -> x.lay(3, 0, 1), Edges.BEYOND);
    }

    static void promise03_theFirstAndTheLastPlaceAreTaken() {
        GateNames x = new GateNames();
        Edges.fill(x, 0, forty(100));
        Edges.asks(x, "lay(0, 0, -1)", x.lay(0, 0, -1), 1, 100);
        Edges.asks(x, "lay(0, 39, -2)", x.lay(0, 39, -2), 1, 139);
        Edges.asks(x, "at(0, 0)", x.at(0, 0), 1, -1);
        Edges.asks(x, "at(0, 1)", x.at(0, 1), 1, 101);
        Edges.asks(x, "at(0, 38)", x.at(0, 38), 1, 138);
        Edges.asks(x, "at(0, 39)", x.at(0, 39), 1, -2);
    }

    static void promise03_theLeastAndTheGreatestIntAreTaken() {
        GateNames x = rows();
        Edges.asks(x, "lay the least", x.lay(0, 0, Edges.LEAST), 1, 1);
        Edges.asks(x, "lay the greatest", x.lay(0, 0, Edges.GREATEST), 1, Edges.LEAST);
        Edges.asks(x, "lay it again", x.lay(0, 0, 0), 1, Edges.GREATEST);
    }

    static void promise03_badComesAheadOfNothingAndThatAheadOfBeyond() {
        Edges.refused(Edges::bare, x -> x.lay(6, -1, 0), Edges.BAD);
        Edges.refused(Edges::bare, x -> x.lay(-1, 40, 0), Edges.BAD);
        Edges.finds(Edges::bare, x -> x.lay(0, -1, 0), Edges.NOTHING);
        Edges.finds(Edges::bare, x -> x.lay(5, 40, 0), Edges.NOTHING);
    }

    // ---- 4 at

    static void promise04_rowsAreNumbered0To5() {
        Edges.takes(Edges::rich, 0, 5, (x, r) -> x.at(r, 0));
    }

    static void promise04_aMissingRowIsNothing() {
        Edges.finds(Edges::rich, x -> x.at(4, 0), Edges.NOTHING);
    }

    static void promise04_aPlaceThatThereIsNotIsBeyond() {
        for (int place : new int[] {-1, 3, 39, 40, Edges.LEAST, Edges.GREATEST}) {
            Edges.finds(Edges::rich, x -> x.at(0, place), Edges.BEYOND);
        }
    }

    static void promise04_anEmptyRowHasNoPlace() {
        Edges.finds(Edges::rich, x -> x.at(3, 0), Edges.BEYOND);
    }

    static void promise04_theFirstAndTheLastPlaceAreToldAndStay() {
        Edges.aside(Edges::rich, x -> x.at(0, 0), 1, 5);
        Edges.aside(Edges::rich, x -> x.at(0, 2), 1, 9);
        GateNames x = new GateNames();
        Edges.fill(x, 5, forty(-20));
        Edges.rowIs(x, 5, forty(-20));
    }

    static void promise04_badComesAheadOfNothingAndThatAheadOfBeyond() {
        Edges.refused(Edges::bare, x -> x.at(6, -1), Edges.BAD);
        Edges.refused(Edges::bare, x -> x.at(-1, 40), Edges.BAD);
        Edges.finds(Edges::bare, x -> x.at(0, -1), Edges.NOTHING);
        Edges.finds(Edges::bare, x -> x.at(5, 40), Edges.NOTHING);
    }

    // ---- 5 tear

    static void promise05_rowsAreNumbered0To5() {
        Edges.takes(Edges::rich, 0, 5, (x, r) -> x.tear(r));
    }

    static void promise05_aMissingRowIsNothing() {
        Edges.finds(Edges::rich, x -> x.tear(4), Edges.NOTHING);
    }

    static void promise05_aRowTornIsMissing() {
        GateNames x = rows();
        Edges.due("tear(0)", x.tear(0), 1);
        Edges.due("count(7)", x.count(7), 2);
        Edges.due("at(0, 0)", x.at(0, 0), Edges.FINDING);
        Edges.due("finding()", x.finding(), Edges.NOTHING);
        Edges.due("tear(0) again", x.tear(0), Edges.FINDING);
        Edges.due("findings(1)", x.findings(1), 2);
    }

    static void promise05_anEmptyRowIsTornAndOthersStay() {
        GateNames x = rows();
        Edges.due("tear(2)", x.tear(2), 1);
        Edges.due("count(7)", x.count(7), 2);
        Edges.rowIs(x, 0, 1, 2, 3);
        Edges.rowIs(x, 1, 8, 9);
    }

    // ---- 6 copy

    static void promise06_bothRowsAreNumbered0To5() {
        Edges.takes(Edges::rich, 0, 5, (x, r) -> x.copy(r, 0, 0, 0, 0));
        Edges.takes(Edges::rich, 0, 5, (x, r) -> x.copy(0, 0, r, 0, 0));
    }

    static void promise06_fewerThanNoneIsSize() {
        Edges.finds(EdgesOfRowsTest::rows, x -> x.copy(0, 0, 1, 0, -1), Edges.SIZE);
        Edges.finds(EdgesOfRowsTest::rows, x -> x.copy(0, 2, 1, 1, Edges.LEAST), Edges.SIZE);
    }

    static void promise06_noPlacesAreCopied() {
        GateNames x = rows();
        Edges.due("copy(0, 0, 1, 0, 0)", x.copy(0, 0, 1, 0, 0), 1);
        Edges.due("copy(0, 3, 1, 2, 0)", x.copy(0, 3, 1, 2, 0), 1);
        Edges.due("copy(2, 0, 2, 0, 0)", x.copy(2, 0, 2, 0, 0), 1);
        Edges.rowIs(x, 0, 1, 2, 3);
        Edges.rowIs(x, 1, 8, 9);
        Edges.rowIs(x, 2);
    }

    static void promise06_noPlacesPastARowsEndAreBeyond() {
        Edges.finds(EdgesOfRowsTest::rows, x -> x.copy(0, 4, 1, 0, 0), Edges.BEYOND);
        Edges.finds(EdgesOfRowsTest::rows, x -> x.copy(0, 0, 1, 3, 0), Edges.BEYOND);
        Edges.finds(EdgesOfRowsTest::rows, x -> x.copy(0, -1, 1, 0, 0), Edges.BEYOND);
        Edges.finds(EdgesOfRowsTest::rows, x -> x.copy(0, 0, 1, -1, 0), Edges.BEYOND);
    }

    static void promise06_eitherRowMissingIsNothing() {
        Edges.finds(EdgesOfRowsTest::rows, x -> x.copy(3, 0, 0, 0, 0), Edges.NOTHING);
        Edges.finds(EdgesOfRowsTest::rows, x -> x.copy(0, 0, 3, 0, 0), Edges.NOTHING);
        Edges.finds(EdgesOfRowsTest::rows, x -> x.copy(3, 0, 3, 0, 0), Edges.NOTHING);
    }

    static void promise06_asManyAsThereAreAreCopiedOneMoreIsBeyond() {
        GateNames x = rows();
        Edges.due("copy(1, 0, 0, 1, 2)", x.copy(1, 0, 0, 1, 2), 1);
        Edges.rowIs(x, 0, 1, 8, 9);
        Edges.finds(EdgesOfRowsTest::rows, y -> y.copy(1, 0, 0, 0, 3), Edges.BEYOND);
        Edges.finds(EdgesOfRowsTest::rows, y -> y.copy(1, 1, 0, 0, 2), Edges.BEYOND);
        Edges.finds(EdgesOfRowsTest::rows, y -> y.copy(0, 0, 1, 0, 3), Edges.BEYOND);
        Edges.finds(EdgesOfRowsTest::rows, y -> y.copy(0, 0, 1, 1, 2), Edges.BEYOND);
        Edges.finds(EdgesOfRowsTest::rows, y -> y.copy(2, 0, 0, 0, 1), Edges.BEYOND);
        Edges.finds(EdgesOfRowsTest::rows, y -> y.copy(0, 0, 2, 0, 1), Edges.BEYOND);
    }

    static void promise06_aPlaceBelow0OrFarAboveIsBeyond() {
        for (int place : new int[] {-1, 40, Edges.LEAST, Edges.GREATEST}) {
            Edges.finds(EdgesOfRowsTest::rows, x -> x.copy(0, place, 1, 0, 1), Edges.BEYOND);
            Edges.finds(EdgesOfRowsTest::rows, x -> x.copy(0, 0, 1, place, 1), Edges.BEYOND);
            Edges.finds(EdgesOfRowsTest::rows, x -> x.copy(0, place, 1, 0, Edges.GREATEST), Edges.BEYOND);
        }
        Edges.finds(EdgesOfRowsTest::rows, x -> x.copy(0, 1, 1, 1, Edges.GREATEST), Edges.BEYOND);
    }

    static void promise06_fortyPlacesAreCopied() {
        GateNames x = new GateNames();
        Edges.fill(x, 0, forty(7));
        x.row(5, 40);
        Edges.due("copy(0, 0, 5, 0, 40)", x.copy(0, 0, 5, 0, 40), 1);
        Edges.rowIs(x, 5, forty(7));
        Edges.rowIs(x, 0, forty(7));
        Edges.due("copy(0, 0, 5, 0, 41)", x.copy(0, 0, 5, 0, 41), Edges.FINDING);
    }

    static void promise06_withinOneRowTheyAreTakenAhead() {
        GateNames x = new GateNames();
        Edges.fill(x, 0, 1, 2, 3, 4, 5);
        x.copy(0, 0, 0, 2, 3);
        Edges.rowIs(x, 0, 1, 2, 1, 2, 3);
        Edges.fill(x, 0, 1, 2, 3, 4, 5);
        x.copy(0, 2, 0, 0, 3);
        Edges.rowIs(x, 0, 3, 4, 5, 4, 5);
        Edges.fill(x, 0, 1, 2, 3, 4, 5);
        x.copy(0, 0, 0, 0, 5);
        Edges.rowIs(x, 0, 1, 2, 3, 4, 5);
    }

    static void promise06_badThenSizeThenNothingThenBeyond() {
        Edges.refused(EdgesOfRowsTest::rows, x -> x.copy(6, -1, 3, -1, -1), Edges.BAD);
        Edges.refused(EdgesOfRowsTest::rows, x -> x.copy(3, -1, -1, -1, -1), Edges.BAD);
        Edges.finds(EdgesOfRowsTest::rows, x -> x.copy(3, -1, 0, -1, -1), Edges.SIZE);
        Edges.finds(EdgesOfRowsTest::rows, x -> x.copy(0, -1, 3, -1, -1), Edges.SIZE);
        Edges.finds(EdgesOfRowsTest::rows, x -> x.copy(0, -1, 0, 0, -1), Edges.SIZE);
        Edges.finds(EdgesOfRowsTest::rows, x -> x.copy(3, 0, 0, 9, 1), Edges.NOTHING);
        Edges.finds(EdgesOfRowsTest::rows, x -> x.copy(0, 9, 3, 0, 1), Edges.NOTHING);
    }

    // ---- 7 mean

    private static void mean(int due, int... values) {
        GateNames x = new GateNames();
        Edges.fill(x, 2, values);
        Edges.asks(x, "mean(2)", x.mean(2), 1, due);
        Edges.rowIs(x, 2, values);
    }

    static void promise07_rowsAreNumbered0To5() {
        Edges.takes(Edges::rich, 0, 5, (x, r) -> x.mean(r));
    }

    static void promise07_aMissingRowIsNothing() {
        Edges.finds(Edges::rich, x -> x.mean(4), Edges.NOTHING);
    }

    static void promise07_sharedAmongNoneIsNought() {
        Edges.finds(Edges::rich, x -> x.mean(3), Edges.NOUGHT);
    }

    static void promise07_theMeanOfOneIsItself() {
        mean(0, 0);
        mean(Edges.LEAST, Edges.LEAST);
        mean(Edges.GREATEST, Edges.GREATEST);
    }

    static void promise07_itIsCutTowards0OnBothSides() {
        mean(0, 1, 0);
        mean(0, -1, 0);
        mean(1, 1, 2, 2);
        mean(-1, -1, -2, -2);
        mean(2, 2, 2, 2);
        mean(-2, -2, -2, -2);
    }

    static void promise07_aSumThatNoIntHoldsIsSharedToo() {
        mean(Edges.GREATEST, Edges.GREATEST, Edges.GREATEST);
        mean(Edges.LEAST, Edges.LEAST, Edges.LEAST);
        mean(0, Edges.LEAST, Edges.GREATEST);
        int[] greatest = new int[40];
        java.util.Arrays.fill(greatest, Edges.GREATEST);
        mean(Edges.GREATEST, greatest);
    }

    static void promise07_fortyIntsCountAndNoneBehindTheRow() {
        mean(19, forty(0));
        GateNames x = new GateNames();
        Edges.fill(x, 0, forty(1000));
        Edges.fill(x, 0, 3);
        Edges.asks(x, "mean(0)", x.mean(0), 1, 3);
    }

    // ---- 8 text

    static void promise08_textsAreNumbered0To3() {
        Edges.takes(Edges::bare, 0, 3, (x, t) -> x.text(t, 1));
        Edges.badOutside(Edges::rich, 0, 3, (x, t) -> x.text(t, 1));
    }

    static void promise08_aTextHasAtMost60Bytes() {
        Edges.due("text(0, 59)", new GateNames().text(0, 59), 59);
        Edges.due("text(0, 60)", new GateNames().text(0, 60), 60);
        Edges.refused(Edges::bare, x -> x.text(0, 61), Edges.BAD);
        Edges.refused(Edges::rich, x -> x.text(0, 61), Edges.BAD);
        Edges.refused(Edges::rich, x -> x.text(0, Edges.GREATEST), Edges.BAD);
    }

    static void promise08_aTextOfNoBytesIsThere() {
        GateNames x = new GateNames();
        Edges.due("text(3, 0)", x.text(3, 0), 0);
        Edges.due("count(8)", x.count(8), 1);
        Edges.due("put(3, 0, 1)", x.put(3, 0, 1), Edges.FINDING);
        Edges.due("finding()", x.finding(), Edges.BEYOND);
    }

    static void promise08_fewerThanNoneIsSize() {
        Edges.finds(Edges::bare, x -> x.text(0, -1), Edges.SIZE);
        Edges.finds(Edges::rich, x -> x.text(0, -1), Edges.SIZE);
        Edges.finds(Edges::rich, x -> x.text(3, Edges.LEAST), Edges.SIZE);
    }

    static void promise08_badComesAheadOfSize() {
        Edges.refused(Edges::rich, x -> x.text(4, -1), Edges.BAD);
        Edges.refused(Edges::rich, x -> x.text(-1, -1), Edges.BAD);
    }

    static void promise08_itsBytesAreBlanksEachTimeItIsMade() {
        GateNames x = new GateNames();
        for (int time = 0; time < 2; time++) {
            x.text(1, 60);
            for (int i = 0; i < 60; i++) {
                Edges.due("put(1, " + i + ", 65)", x.put(1, i, 65), 1032);
            }
            x.text(1, 1);
        }
    }

    static void promise08_otherTextsAreAsTheyWere() {
        GateNames x = Edges.rich();
        x.text(1, 60);
        Edges.due("fault(0)", x.fault(0), Edges.NONE);
        Edges.due("fault(2)", x.fault(2), 5);
        Edges.due("count(8)", x.count(8), 3);
    }

    // ---- 9 put

    static void promise09_textsAreNumbered0To3() {
        Edges.takes(Edges::rich, 0, 3, (x, t) -> x.put(t, 0, 1));
    }

    static void promise09_aMissingTextIsNothing() {
        Edges.finds(Edges::rich, x -> x.put(1, 0, 1), Edges.NOTHING);
        Edges.finds(Edges::rich, x -> x.put(3, 0, 1), Edges.NOTHING);
    }

    static void promise09_aPlaceThatThereIsNotIsBeyond() {
        for (int place : new int[] {-1, 6, 59, 60, Edges.LEAST, Edges.GREATEST}) {
            Edges.finds(Edges::rich, x -> x.put(2, place, 1), Edges.BEYOND);
        }
    }

    static void promise09_anEmptyTextHasNoPlace() {
        GateNames x = new GateNames();
        x.text(0, 0);
        Edges.due("put(0, 0, 1)", x.put(0, 0, 1), Edges.FINDING);
        Edges.due("finding()", x.finding(), Edges.BEYOND);
    }

    static void promise09_theFirstAndTheLastPlaceAreTaken() {
        GateNames x = new GateNames();
        x.text(0, 60);
        Edges.due("put(0, 0, 1)", x.put(0, 0, 1), 1032);
        Edges.due("put(0, 59, 2)", x.put(0, 59, 2), 1032);
        Edges.due("put(0, 1, 3)", x.put(0, 1, 3), 1032);
        Edges.due("put(0, 58, 4)", x.put(0, 58, 4), 1032);
        Edges.due("put(0, 0, 0)", x.put(0, 0, 0), 1001);
        Edges.due("put(0, 59, 0)", x.put(0, 59, 0), 1002);
    }

    static void promise09_whatIsPutIsCutToAByte() {
        int[] values = {0, 127, 128, 255, 256, -1, -128, -129, 383, 384, Edges.LEAST, Edges.GREATEST};
        int[] due = {1000, 1127, 872, 999, 1000, 999, 872, 1127, 1127, 872, 1000, 999};
        GateNames x = new GateNames();
        x.text(3, 1);
        for (int k = 0; k < values.length; k++) {
            x.put(3, 0, values[k]);
            Edges.due("what " + values[k] + " was cut to", x.put(3, 0, 32), due[k]);
        }
    }

    static void promise09_badComesAheadOfNothingAndThatAheadOfBeyond() {
        Edges.refused(Edges::bare, x -> x.put(4, -1, 0), Edges.BAD);
        Edges.refused(Edges::bare, x -> x.put(-1, 60, 0), Edges.BAD);
        Edges.finds(Edges::bare, x -> x.put(0, -1, 0), Edges.NOTHING);
        Edges.finds(Edges::bare, x -> x.put(3, 60, 0), Edges.NOTHING);
    }
}
