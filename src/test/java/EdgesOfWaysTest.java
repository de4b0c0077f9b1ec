/** Boundary cases of promises 22 to 29: who comes through, what to do, who was the last. */
public final class EdgesOfWaysTest {
    private static final String SEVEN_KINGS = "k99k99k99k99k99k99k99";
    private static final String SEVEN_STRANGERS = "g99g99g99g99g99g99g99";

    public static void main(String[] args) throws ReflectiveOperationException {
        Edges.run(EdgesOfWaysTest.class, 22, 29);
    }

    /** One is left, and it is open to it. */
    private static GateNames oneLeft() {
        return Edges.gone("g39g40", 0);
    }

    /** One is left, and it is shut to it. */
    private static GateNames oneShutOut() {
        return Edges.gone("g39g49", 0);
    }

    // ---- 22 open

    static void promise22_withoutGoersToNobody() {
        Edges.aside(Edges::bare, x -> x.open(), 0, 0);
    }

    static void promise22_whereNobodyHasToAll() {
        Edges.aside(() -> Edges.gate("g09m09"), x -> x.open(), 3, 2);
        Edges.aside(() -> Edges.gate(SEVEN_STRANGERS), x -> x.open(), 127, 7);
    }

    static void promise22_whereEverybodyHasToNobody() {
        Edges.aside(Edges::everybody, x -> x.open(), 0, 2);
        Edges.aside(() -> Edges.gone("g01g09", 1, 0), x -> x.open(), 0, 1);
        Edges.aside(() -> Edges.gone(SEVEN_KINGS, 0, 1, 2, 3, 4, 5, 6), x -> x.open(), 0, 7);
    }

    static void promise22_shutWhoWentLastCanNameItself() {
        Edges.aside(Edges::shut, x -> x.open(), 0, 1);
    }

    static void promise22_thoseGoneCountAmongThoseThatCanNameAlone() {
        Edges.aside(() -> Edges.gone("g01g00g00", 1, 0), x -> x.open(), 4, 3);
    }

    // ---- 23 most

    static void promise23_rowsAreNumbered0To5() {
        Edges.takes(Edges::rich, 0, 5, (x, r) -> x.most(r));
    }

    static void promise23_withoutGoersItIsState() {
        Edges.refused(Edges::bare, x -> x.most(0), Edges.STATE);
        Edges.refused(Edges::bare, x -> x.most(5), Edges.STATE);
    }

    static void promise23_badComesAheadOfState() {
        Edges.badOutside(Edges::bare, 0, 5, (x, r) -> x.most(r));
    }

    static void promise23_whereEverybodyHasNoneAndAnEmptyRow() {
        GateNames x = Edges.everybody();
        x.row(0, 40);
        Edges.due("most(0)", x.most(0), 0);
        Edges.rowIs(x, 0);
        Edges.due("most(5)", x.most(5), 0);
        Edges.rowIs(x, 5);
        Edges.due("rows", x.count(7), 2);
    }

    static void promise23_whereItIsShutNoneAndAnEmptyRow() {
        GateNames x = Edges.shut();
        Edges.due("most(2)", x.most(2), 0);
        Edges.rowIs(x, 2);
    }

    static void promise23_oneAmongStrangersAndAllAmongKings() {
        GateNames strangers = Edges.gate(SEVEN_STRANGERS);
        Edges.due("most(0)", strangers.most(0), 1);
        Edges.rowIs(strangers, 0, 0);
        GateNames kings = Edges.gate(SEVEN_KINGS);
        Edges.due("most(0)", kings.most(0), 7);
        Edges.rowIs(kings, 0, 0, 1, 2, 3, 4, 5, 6);
    }

    static void promise23_theOneThatIsLeft() {
        GateNames open = oneLeft();
        Edges.due("most(0)", open.most(0), 1);
        Edges.rowIs(open, 0, 1);
        GateNames shut = oneShutOut();
        Edges.due("most(0), shut", shut.most(0), 0);
        Edges.rowIs(shut, 0);
    }

    static void promise23_theFirstOfRowsOfSoMany() {
        GateNames last = Edges.gate("g01g02g03g04g05g06g09");
        Edges.due("most(0)", last.most(0), 7);
        Edges.rowIs(last, 0, 6, 5, 4, 3, 2, 1, 0);
        GateNames fork = Edges.gate("g02g02g09");
        Edges.due("most(0)", fork.most(0), 2);
        Edges.rowIs(fork, 0, 2, 0);
        GateNames start = Edges.gate("g09g09g00g01");
        Edges.due("most(0)", start.most(0), 2);
        Edges.rowIs(start, 0, 0, 2);
    }

    static void promise23_whoeverIsLeftOut() {
        GateNames first = Edges.gate("g09g09g01");
        Edges.due("most(0) without 0", first.most(0), 2);
        Edges.rowIs(first, 0, 1, 2);
        GateNames between = Edges.gate("g09g09g00");
        Edges.due("most(0) without 1", between.most(0), 2);
        Edges.rowIs(between, 0, 0, 2);
        GateNames last = Edges.gate("g09g00g09");
        Edges.due("most(0) without 2", last.most(0), 2);
        Edges.rowIs(last, 0, 0, 1);
    }

    static void promise23_theRowIsAnew() {
        GateNames x = Edges.gate("g02g02g09");
        Edges.fill(x, 1, 9, 9, 9, 9, 9, 9, 9, 9);
        x.most(1);
        Edges.rowIs(x, 1, 2, 0);
        x.row(1, 0);
        x.most(1);
        Edges.rowIs(x, 1, 2, 0);
    }

    static void promise23_nothingButTheRowChanges() {
        GateNames x = Edges.rich();
        Edges.due("most(4)", x.most(4), 3);
        Edges.due("tear(4)", x.tear(4), 1);
        Edges.alike(x, Edges.rich());
    }

    // ---- 24 worth

    static void promise24_withoutGoersItIsState() {
        Edges.refused(Edges::bare, x -> x.worth(), Edges.STATE);
    }

    static void promise24_whereEverybodyHas0ByNobody() {
        Edges.aside(Edges::everybody, x -> x.worth(), 0, 0);
    }

    static void promise24_whereItIsShut0ByNobody() {
        Edges.aside(Edges::shut, x -> x.worth(), 0, 0);
        Edges.aside(EdgesOfWaysTest::oneShutOut, x -> x.worth(), 0, 0);
    }

    static void promise24_worthNothing0ByNobody() {
        Edges.aside(() -> Edges.gate("k09k09k09"), x -> x.worth(), 0, 0);
    }

    static void promise24_theGreatest63BySeven() {
        Edges.aside(() -> Edges.gate(SEVEN_KINGS), x -> x.worth(), 63, 7);
    }

    static void promise24_thoseThatHaveNotGoneAlone() {
        Edges.aside(() -> Edges.gone(SEVEN_KINGS, 0, 1, 2, 3, 4, 5), x -> x.worth(), 9, 1);
        Edges.aside(EdgesOfWaysTest::oneLeft, x -> x.worth(), 4, 1);
    }

    static void promise24_oneAmongStrangers() {
        Edges.aside(() -> Edges.gate(SEVEN_STRANGERS), x -> x.worth(), 9, 1);
        Edges.aside(() -> Edges.gate("g19g09g09"), x -> x.worth(), 1, 1);
        Edges.aside(() -> Edges.gate("g09g19g09"), x -> x.worth(), 1, 1);
        Edges.aside(() -> Edges.gate("g09g09g19"), x -> x.worth(), 1, 1);
    }

    static void promise24_theShortestOfRowsWorthMost() {
        Edges.aside(() -> Edges.gate("k59k09k59"), x -> x.worth(), 10, 2);
        Edges.aside(() -> Edges.gate("g59g00g51"), x -> x.worth(), 10, 3);
        Edges.aside(() -> Edges.gate("g29g30g59"), x -> x.worth(), 5, 1);
    }

    // ---- 25 orders

    static void promise25_withoutGoersItIsState() {
        Edges.refused(Edges::bare, x -> x.orders(), Edges.STATE);
    }

    static void promise25_whereEverybodyHas1() {
        Edges.aside(Edges::everybody, x -> x.orders(), 1, 0);
        Edges.due("seven kings gone", Edges.gone(SEVEN_KINGS, 6, 5, 4, 3, 2, 1, 0).orders(), 1);
    }

    static void promise25_whereItIsShutNone() {
        Edges.due("two shut out", Edges.shut().orders(), 0);
        Edges.due("one shut out", oneShutOut().orders(), 0);
    }

    static void promise25_whereOneIsLeft1() {
        Edges.due("one left", oneLeft().orders(), 1);
    }

    static void promise25_ofStrangersNoneOfKingsAll() {
        Edges.due("two strangers", Edges.gate("g09g09").orders(), 0);
        Edges.due("two kings", Edges.gate("k09k09").orders(), 2);
        Edges.due("seven strangers", Edges.gate(SEVEN_STRANGERS).orders(), 0);
        Edges.due("seven kings", Edges.gate(SEVEN_KINGS).orders(), 5040);
        Edges.due("six of them", Edges.gone(SEVEN_KINGS, 4).orders(), 720);
    }

    static void promise25_nothingChanges() {
        Edges.aside(() -> {
            GateNames x = Edges.rich();
            x.meet(2, 3);
            return x;
        }, x -> x.orders(), 0, -7);
    }

    // ---- 26 meetings

    static void promise26_withoutGoersItIsState() {
        Edges.refused(Edges::bare, x -> x.meetings(), Edges.STATE);
    }

    static void promise26_whereEverybodyHasNone() {
        Edges.aside(Edges::everybody, x -> x.meetings(), 0, 0);
    }

    static void promise26_whereAllCanAlready0() {
        Edges.aside(() -> Edges.gate(SEVEN_KINGS), x -> x.meetings(), 0, 0);
        Edges.aside(EdgesOfWaysTest::oneLeft, x -> x.meetings(), 0, 0);
    }

    static void promise26_zeroIsToldAnew() {
        GateNames x = Edges.gate("g19g29");
        Edges.asks(x, "meetings()", x.meetings(), 1, 1);
        x.meet(0, 1);
        Edges.asks(x, "meetings() behind it", x.meetings(), 0, 0);
    }

    static void promise26_byOneTheLeastAndTheGreatestPair() {
        Edges.aside(() -> Edges.gate("g19g29"), x -> x.meetings(), 1, 1);
        Edges.aside(() -> Edges.gone("k09k09k09k09k09g09g09", 0, 1, 2, 3, 4), x -> x.meetings(), 1, 56);
    }

    static void promise26_byTwoTheLeastAndAGreatNumber() {
        Edges.aside(() -> Edges.gate("g19g29g39"), x -> x.meetings(), 2, 102);
        Edges.aside(() -> Edges.gone("k09k09k09k09g09g09g09", 0, 1, 2, 3), x -> x.meetings(), 2, 4546);
    }

    static void promise26_byNoTwoIsNone() {
        Edges.refused(() -> Edges.gate("g19g29g39g49"), x -> x.meetings(), Edges.NONE);
        Edges.refused(() -> Edges.gate(SEVEN_STRANGERS), x -> x.meetings(), Edges.NONE);
    }

    static void promise26_theOneShutOutMeetsNobody() {
        Edges.refused(EdgesOfWaysTest::oneShutOut, x -> x.meetings(), Edges.NONE);
    }

    static void promise26_thoseThatHaveGoneMeetNobody() {
        Edges.refused(Edges::shut, x -> x.meetings(), Edges.NONE);
    }

    static void promise26_whatIsAsideIsNotBoundBy40Deeds() {
        GateNames x = Edges.gate("g19g29g39");
        for (int k = 0; k < 40; k++) {
            x.card(0);
        }
        Edges.asks(x, "meetings()", x.meetings(), 2, 102);
        Edges.due("deeds", x.count(2), 40);
    }

    // ---- 27 stone

    static void promise27_withoutGoersItIsState() {
        Edges.refused(Edges::bare, x -> x.stone(), Edges.STATE);
    }

    static void promise27_whereEverybodyHasNone() {
        Edges.refused(Edges::everybody, x -> x.stone(), Edges.NONE);
        Edges.refused(() -> Edges.gone(SEVEN_KINGS, 0, 1, 2, 3, 4, 5, 6), x -> x.stone(), Edges.NONE);
    }

    static void promise27_theOneThatIsLeft() {
        Edges.aside(EdgesOfWaysTest::oneLeft, x -> x.stone(), 1, 1);
        Edges.aside(EdgesOfWaysTest::oneShutOut, x -> x.stone(), 1, 0);
    }

    static void promise27_theFirstOfThoseThatHelpAlike() {
        Edges.aside(() -> Edges.gate(SEVEN_KINGS), x -> x.stone(), 0, 7);
        Edges.aside(() -> Edges.gone(SEVEN_KINGS, 0), x -> x.stone(), 1, 6);
        Edges.aside(() -> Edges.gate("m09m09"), x -> x.stone(), 0, 1);
        Edges.aside(Edges::shut, x -> x.stone(), 1, 0);
    }

    static void promise27_theLastOfAllIfItAloneHelps() {
        Edges.aside(() -> Edges.gate("m09m09m09m09m09m09g09"), x -> x.stone(), 6, 2);
    }

    static void promise27_whoLeavesTheCardDoesNotRead() {
        Edges.aside(() -> {
            GateNames x = Edges.gate("g09g09");
            x.card(0);
            x.go(0);
            return x;
        }, x -> x.stone(), 1, 0);
    }

    static void promise27_cardsThatLieThereAreReadToo() {
        Edges.aside(() -> {
            GateNames x = Edges.gate("m09g09g09");
            x.card(1);
            return x;
        }, x -> x.stone(), 2, 3);
    }

    static void promise27_whatIsAsideIsNotBoundBy40Deeds() {
        Edges.aside(() -> {
            GateNames x = Edges.gate("m19g29");
            for (int k = 0; k < 40; k++) {
                x.card(0);
            }
            return x;
        }, x -> x.stone(), 1, 2);
    }

    // ---- 28 hold

    static void promise28_withoutGoersItIsState() {
        Edges.refused(Edges::bare, x -> x.hold(), Edges.STATE);
    }

    static void promise28_whereEverybodyHasNone() {
        Edges.refused(Edges::everybody, x -> x.hold(), Edges.NONE);
        Edges.refused(() -> Edges.gone(SEVEN_KINGS, 0, 1, 2, 3, 4, 5, 6), x -> x.hold(), Edges.NONE);
    }

    static void promise28_theOneThatIsLeft() {
        Edges.aside(EdgesOfWaysTest::oneLeft, x -> x.hold(), 1, 0);
        Edges.aside(EdgesOfWaysTest::oneShutOut, x -> x.hold(), 1, 0);
    }

    static void promise28_theFirstOfThoseAlike() {
        Edges.aside(() -> Edges.gate("g09g09"), x -> x.hold(), 0, 1);
        Edges.aside(() -> Edges.gate(SEVEN_KINGS), x -> x.hold(), 0, 6);
        Edges.aside(() -> Edges.gone(SEVEN_KINGS, 0), x -> x.hold(), 1, 5);
        Edges.aside(Edges::shut, x -> x.hold(), 1, 0);
    }

    static void promise28_theLastOfAllIfItAloneIsNeeded() {
        Edges.aside(() -> Edges.gate("g06g06g06g06g06g06g09"), x -> x.hold(), 6, 1);
    }

    // ---- 29 last

    static void promise29_aSetIs0ToAsManyAsAreThere() {
        Edges.takes(Edges::rich, 0, 127, (x, set) -> x.last(set));
        Edges.takes(() -> Edges.gate("g09g09"), 0, 3, (x, set) -> x.last(set));
    }

    static void promise29_withoutGoers0IsStateOthersAreBad() {
        Edges.refused(Edges::bare, x -> x.last(0), Edges.STATE);
        Edges.badOutside(Edges::bare, 0, 0, (x, set) -> x.last(set));
    }

    static void promise29_whereEverybodyHasAllBySetOfNobody() {
        Edges.aside(Edges::everybody, x -> x.last(0), 3, 0);
        for (int set = 1; set < 4; set++) {
            Edges.due("last(" + set + ")", Edges.everybody().last(set), 0);
        }
    }

    static void promise29_ofStrangersAllBySetOfNobody() {
        Edges.due("last(0)", Edges.gate(SEVEN_STRANGERS).last(0), 127);
        Edges.due("last(1)", Edges.gate(SEVEN_STRANGERS).last(1), 0);
        Edges.due("last(127)", Edges.gate(SEVEN_STRANGERS).last(127), 0);
    }

    static void promise29_oneThatGoesLastIsNotAmongThoseLeft() {
        GateNames kings = Edges.gate(SEVEN_KINGS);
        Edges.due("last(126)", kings.last(126), 1);
        Edges.due("last(63)", kings.last(63), 64);
        Edges.due("last(127)", kings.last(127), 0);
        Edges.due("last(0)", kings.last(0), 0);
    }

    static void promise29_oneThatHasGoneCanBeItButIsInNoSet() {
        GateNames x = Edges.gone("k09k09k09", 1);
        Edges.due("last(5)", x.last(5), 2);
        Edges.due("last(4)", x.last(4), 1);
        Edges.due("last(1)", x.last(1), 4);
        Edges.due("last(7)", x.last(7), 0);
        Edges.due("last(2)", x.last(2), 0);
    }

    static void promise29_justASetIsNoMoreAndNoLess() {
        GateNames x = Edges.gate("g09g00g00g09");
        Edges.due("last(6)", x.last(6), 1);
        Edges.due("last(2)", x.last(2), 0);
        Edges.due("last(14)", x.last(14), 0);
    }

    static void promise29_nothingChanges() {
        Edges.aside(Edges::rich, x -> x.last(126), 1, -7);
    }
}
