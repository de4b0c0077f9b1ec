/** Boundary cases of promises 15 to 21: meeting, cards, reading, going through, undone, kept, gone on from. */
public final class EdgesOfDeedsTest {
    private static final String SEVEN_KINGS = "k09k09k09k09k09k09k09";
    private static final String SEVEN_GOERS = "g09g09g09g09g09g09g09";

    public static void main(String[] args) throws ReflectiveOperationException {
        Edges.run(EdgesOfDeedsTest.class, 15, 21);
    }

    /** Three who know nobody, behind so many deeds that change nothing. */
    private static GateNames behind(int deeds) {
        GateNames x = Edges.gate("g19g29m39");
        for (int k = 0; k < deeds; k++) {
            x.card(2);
        }
        Edges.due("deeds", x.count(2), deeds);
        return x;
    }

    /** The first of a row of deeds of every sort, each of which changes something. */
    private static GateNames after(int deeds) {
        GateNames x = Edges.gate("i19g29g39f40m59k69g79");
        Edges.Call[] all = {
            y -> y.meet(0, 1), y -> y.card(0), y -> y.reads(2), y -> y.meet(4, 6), y -> y.card(6),
            y -> y.go(5), y -> y.reads(3), y -> y.go(1), y -> y.go(0), y -> y.card(2)};
        for (int k = 0; k < deeds; k++) {
            Edges.due("deed " + k + " refused", all[k].on(x) < 0 ? 1 : 0, 0);
        }
        return x;
    }

    // ---- 15 meet

    static void promise15_bothAreNumberedFrom0() {
        Edges.takes(Edges::rich, 0, 6, (x, i) -> x.meet(i, 3));
        Edges.takes(Edges::rich, 0, 6, (x, j) -> x.meet(3, j));
        Edges.takes(() -> Edges.gate("g09g09g09"), 0, 2, (x, i) -> x.meet(i, 1 - i / 2));
        Edges.takes(() -> Edges.gate("g09g09g09"), 0, 2, (x, j) -> x.meet(1 - j / 2, j));
    }

    static void promise15_twoAlikeAreBadWhereverTheyAre() {
        for (int i = 0; i < 7; i++) {
            int goer = i;
            Edges.refused(Edges::rich, x -> x.meet(goer, goer), Edges.BAD);
            Edges.refused(Edges::full, x -> x.meet(goer, goer), Edges.BAD);
        }
    }

    static void promise15_withoutGoersAllIsBad() {
        Edges.refused(Edges::bare, x -> x.meet(0, 1), Edges.BAD);
    }

    static void promise15_oneThatHasGoneThroughIsState() {
        Edges.refused(Edges::rich, x -> x.meet(0, 1), Edges.STATE);
        Edges.refused(Edges::rich, x -> x.meet(1, 0), Edges.STATE);
        Edges.refused(Edges::everybody, x -> x.meet(0, 1), Edges.STATE);
    }

    static void promise15_the40thDeedIsDoneThe41stIsFull() {
        GateNames x = behind(39);
        Edges.due("meet(0, 1)", x.meet(0, 1), 2);
        Edges.due("deeds", x.count(2), 40);
        Edges.refused(() -> behind(40), y -> y.meet(0, 1), Edges.FULL);
        Edges.refused(Edges::full, y -> y.meet(1, 2), Edges.FULL);
    }

    static void promise15_fullComesLast() {
        Edges.refused(Edges::full, x -> x.meet(0, 1), Edges.STATE);
        Edges.refused(Edges::full, x -> x.meet(1, 0), Edges.STATE);
        Edges.refused(Edges::full, x -> x.meet(1, 7), Edges.BAD);
        Edges.refused(Edges::full, x -> x.meet(-1, 1), Edges.BAD);
    }

    static void promise15_badComesAheadOfState() {
        Edges.refused(Edges::rich, x -> x.meet(0, 7), Edges.BAD);
        Edges.refused(Edges::rich, x -> x.meet(-1, 0), Edges.BAD);
    }

    static void promise15_ofHowManyMoreBothWereTold() {
        Edges.due("two strangers", Edges.gate("g09g09").meet(0, 1), 2);
        Edges.due("one knows the other", Edges.gate("g01g09").meet(0, 1), 1);
        Edges.due("they know one another", Edges.gate("g01g00").meet(0, 1), 0);
        Edges.due("two mutes", Edges.gate("m09m09").meet(0, 1), 0);
        Edges.due("two false ones", Edges.gate("f09f09").meet(0, 1), 0);
        Edges.due("two false ones with names", Edges.gate("f02f03g09g09").meet(0, 1), 2);
        Edges.due("two singers with names", Edges.gate("i02i03g09g09").meet(1, 0), 4);
        Edges.due("kings, Smiths", Edges.gate("k09s09").meet(0, 1), 2);
    }

    static void promise15_nobodyIsToldOfItself() {
        GateNames x = Edges.gate("i01f00");
        Edges.due("meet(0, 1)", x.meet(0, 1), 0);
        Edges.asks(x, "goer(0, 2)", x.goer(0, 2), 1, 2);
        Edges.asks(x, "goer(1, 2)", x.goer(1, 2), 1, 1);
    }

    static void promise15_aMeetingThatTellsNothingIsADeed() {
        GateNames x = Edges.gate("m09m09");
        Edges.due("meet(0, 1)", x.meet(0, 1), 0);
        Edges.due("meet(1, 0)", x.meet(1, 0), 0);
        Edges.due("deeds", x.count(2), 2);
    }

    static void promise15_singersTellOfThoseThatHaveGone() {
        GateNames x = Edges.gone("i02g09g09", 2);
        Edges.due("meet(0, 1)", x.meet(0, 1), 3);
        Edges.asks(x, "goer(1, 2)", x.goer(1, 2), 1, 5);
    }

    // ---- 16 card

    static void promise16_goersAreNumberedFrom0() {
        Edges.takes(Edges::rich, 0, 6, (x, i) -> x.card(i));
        Edges.takes(() -> Edges.gate("g09g09"), 0, 1, (x, i) -> x.card(i));
        Edges.refused(Edges::bare, x -> x.card(0), Edges.BAD);
    }

    static void promise16_oneThatHasGoneThroughIsState() {
        Edges.refused(Edges::rich, x -> x.card(0), Edges.STATE);
        Edges.refused(Edges::everybody, x -> x.card(0), Edges.STATE);
        Edges.refused(Edges::everybody, x -> x.card(1), Edges.STATE);
    }

    static void promise16_the40thDeedIsDoneThe41stIsFull() {
        GateNames x = behind(39);
        Edges.due("card(0)", x.card(0), 1);
        Edges.due("deeds", x.count(2), 40);
        Edges.refused(() -> behind(40), y -> y.card(0), Edges.FULL);
        Edges.refused(Edges::full, y -> y.card(6), Edges.FULL);
    }

    static void promise16_fullComesLast() {
        Edges.refused(Edges::full, x -> x.card(0), Edges.STATE);
        Edges.refused(Edges::full, x -> x.card(7), Edges.BAD);
        Edges.refused(Edges::full, x -> x.card(-1), Edges.BAD);
    }

    static void promise16_nobodyIsOnTheStoneByAMutesOrALoneFalseOnesCard() {
        GateNames x = Edges.gate("m01f09");
        Edges.due("card(0)", x.card(0), 0);
        Edges.due("card(1)", x.card(1), 0);
        Edges.due("deeds", x.count(2), 2);
    }

    static void promise16_allAreOnTheStone() {
        GateNames x = Edges.gate(SEVEN_GOERS);
        int due = 0;
        for (int i = 0; i < 7; i++) {
            due |= 1 << i;
            Edges.due("card(" + i + ")", x.card(i), due);
        }
        Edges.due("card(0) again", x.card(0), 127);
        Edges.due("count(5)", x.count(5), 127);
    }

    static void promise16_whoLeavesACardIsToldOfNobody() {
        GateNames x = Edges.gate("g09i02g09");
        x.card(0);
        Edges.due("card(1)", x.card(1), 7);
        Edges.asks(x, "goer(1, 2)", x.goer(1, 2), 1, 4);
    }

    // ---- 17 reads

    static void promise17_goersAreNumberedFrom0() {
        Edges.takes(Edges::rich, 0, 6, (x, i) -> x.reads(i));
        Edges.takes(() -> Edges.gate("g09g09"), 0, 1, (x, i) -> x.reads(i));
        Edges.refused(Edges::bare, x -> x.reads(0), Edges.BAD);
    }

    static void promise17_oneThatHasGoneThroughIsState() {
        Edges.refused(Edges::rich, x -> x.reads(0), Edges.STATE);
        Edges.refused(Edges::everybody, x -> x.reads(0), Edges.STATE);
        Edges.refused(Edges::everybody, x -> x.reads(1), Edges.STATE);
    }

    static void promise17_the40thDeedIsDoneThe41stIsFull() {
        GateNames x = behind(38);
        x.card(0);
        Edges.due("reads(1)", x.reads(1), 1);
        Edges.due("deeds", x.count(2), 40);
        Edges.refused(() -> behind(40), y -> y.reads(1), Edges.FULL);
        Edges.refused(Edges::full, y -> y.reads(6), Edges.FULL);
    }

    static void promise17_fullComesLast() {
        Edges.refused(Edges::full, x -> x.reads(0), Edges.STATE);
        Edges.refused(Edges::full, x -> x.reads(7), Edges.BAD);
        Edges.refused(Edges::full, x -> x.reads(-1), Edges.BAD);
    }

    static void promise17_nobodyIsOnTheStone() {
        GateNames x = Edges.gate("g01g09");
        Edges.due("reads(0)", x.reads(0), 0);
        Edges.due("deeds", x.count(2), 1);
        Edges.asks(x, "goer(0, 2)", x.goer(0, 2), 1, 2);
    }

    static void promise17_itselfAloneIsOnTheStone() {
        GateNames x = Edges.gate("g09g09");
        x.card(0);
        Edges.due("reads(0)", x.reads(0), 0);
        Edges.asks(x, "goer(0, 2)", x.goer(0, 2), 1, 0);
    }

    static void promise17_allAreOnTheStone() {
        GateNames x = Edges.gate(SEVEN_GOERS);
        for (int i = 0; i < 7; i++) {
            x.card(i);
        }
        Edges.due("reads(6)", x.reads(6), 6);
        Edges.due("reads(6) again", x.reads(6), 0);
        Edges.asks(x, "goer(6, 2)", x.goer(6, 2), 1, 63);
        Edges.due("the stone", x.count(5), 127);
    }

    static void promise17_aCardOfOneGoneSinceIsRead() {
        GateNames x = Edges.gate("g09g09");
        x.card(0);
        x.go(0);
        Edges.due("reads(1)", x.reads(1), 1);
        Edges.due("go(1)", x.go(1), 2);
    }

    // ---- 18 go

    static void promise18_goersAreNumberedFrom0() {
        Edges.takes(Edges::rich, 0, 6, (x, i) -> x.go(i));
        Edges.takes(() -> Edges.gate("g09g09"), 0, 1, (x, i) -> x.go(i));
        Edges.refused(Edges::bare, x -> x.go(0), Edges.BAD);
    }

    static void promise18_whereNobodyHasItIsOpenToEach() {
        for (int i = 0; i < 7; i++) {
            Edges.due("go(" + i + ")", Edges.gate("g09m09f09k09s09i09g09").go(i), 1);
        }
    }

    static void promise18_oneThatHasGoneThroughIsState() {
        Edges.refused(Edges::rich, x -> x.go(0), Edges.STATE);
        Edges.refused(Edges::everybody, x -> x.go(0), Edges.STATE);
        Edges.refused(Edges::everybody, x -> x.go(1), Edges.STATE);
    }

    static void promise18_oneToWhomItIsNotOpenIsState() {
        Edges.refused(Edges::shut, x -> x.go(1), Edges.STATE);
        Edges.refused(Edges::shut, x -> x.go(2), Edges.STATE);
    }

    static void promise18_itIsOpenByTheLastOneAloneNotByThoseAhead() {
        GateNames x = Edges.gone("g09g00g00", 0, 1);
        Edges.due("go(2), who can name the one ahead", x.go(2), Edges.STATE);
        Edges.due("who went last", x.count(3), 1);
    }

    static void promise18_the40thDeedIsDoneThe41stIsFull() {
        GateNames x = behind(39);
        Edges.due("go(0)", x.go(0), 1);
        Edges.due("deeds", x.count(2), 40);
        Edges.refused(() -> behind(40), y -> y.go(0), Edges.FULL);
        Edges.refused(Edges::full, y -> y.go(6), Edges.FULL);
    }

    static void promise18_fullComesLast() {
        Edges.refused(Edges::full, x -> x.go(0), Edges.STATE);
        Edges.refused(Edges::full, x -> x.go(7), Edges.BAD);
        Edges.refused(Edges::full, x -> x.go(-1), Edges.BAD);
        Edges.refused(() -> {
            GateNames x = behind(39);
            x.go(2);
            return x;
        }, x -> x.go(0), Edges.STATE);
    }

    static void promise18_allSevenGoThrough() {
        GateNames x = Edges.gate(SEVEN_KINGS);
        for (int i = 6; i >= 0; i--) {
            Edges.due("go(" + i + ")", x.go(i), 7 - i);
            Edges.due("who went last", x.count(3), i);
        }
        Edges.due("those gone", x.count(4), 127);
    }

    // ---- 19 undo

    static void promise19_fromNone0IsTakenAlone() {
        Edges.due("undo(0)", new GateNames().undo(0), 0);
        Edges.badOutside(Edges::bare, 0, 0, (x, n) -> x.undo(n));
        Edges.takes(() -> behind(0), 0, 0, (x, n) -> x.undo(n));
    }

    static void promise19_deedsAreNumberedFrom0ToTheirCount() {
        Edges.takes(Edges::rich, 0, 4, (x, n) -> x.undo(n));
        Edges.takes(Edges::full, 0, 40, (x, n) -> x.undo(n));
    }

    static void promise19_fromTheCountOnNoneIsUndone() {
        Edges.aside(Edges::rich, x -> x.undo(4), 0, -7);
        Edges.aside(Edges::full, x -> x.undo(40), 0, -7);
    }

    static void promise19_fromEachNumberOnTheRestIsUndone() {
        for (int n = 0; n <= 10; n++) {
            GateNames x = after(10);
            Edges.due("undo(" + n + ")", x.undo(n), 10 - n);
            Edges.due("deeds", x.count(2), n);
            Edges.alike(x, after(n));
        }
    }

    static void promise19_fortyAreUndone() {
        GateNames x = behind(40);
        Edges.due("undo(0)", x.undo(0), 40);
        Edges.due("deeds", x.count(2), 0);
        Edges.due("undo(0) again", x.undo(0), 0);
        Edges.due("undo(1)", x.undo(1), Edges.BAD);
    }

    static void promise19_behindItDeedsCanBeDoneAgain() {
        GateNames x = behind(40);
        x.undo(39);
        Edges.due("card(0)", x.card(0), 1);
        Edges.due("card(1), the 41st", x.card(1), Edges.FULL);
    }

    static void promise19_deedsOfNothingAreUndoneToo() {
        GateNames x = Edges.gone("g09g09", 1);
        Edges.due("lots(1, 1): 1 has gone", x.lots(1, 1), 1);
        Edges.due("deeds", x.count(2), 2);
        Edges.due("undo(1)", x.undo(1), 1);
        Edges.due("those gone", x.count(4), 2);
    }

    static void promise19_whatWasToldAndKeptAndFoundStays() {
        GateNames x = Edges.rich();
        x.undo(0);
        Edges.due("asked()", x.asked(), -7);
        Edges.due("finding()", x.finding(), Edges.BEYOND);
        Edges.due("kept gates", x.count(9), 2);
        Edges.due("on(2)", x.on(2), 3);
    }

    // ---- 20 keep

    static void promise20_placesAre0To2() {
        Edges.takes(Edges::rich, 0, 2, (x, k) -> x.keep(k));
    }

    static void promise20_withoutGoersItIsState() {
        for (int k = 0; k < 3; k++) {
            int place = k;
            Edges.refused(Edges::bare, x -> x.keep(place), Edges.STATE);
        }
    }

    static void promise20_badComesAheadOfState() {
        Edges.badOutside(Edges::bare, 0, 2, (x, k) -> x.keep(k));
    }

    static void promise20_noDeedsAndFortyAreKept() {
        GateNames x = behind(0);
        Edges.due("keep(0)", x.keep(0), 0);
        GateNames full = behind(40);
        Edges.due("keep(2)", full.keep(2), 40);
        full.undo(0);
        Edges.due("on(2)", full.on(2), 40);
        Edges.due("deeds", full.count(2), 40);
        Edges.due("card(0)", full.card(0), Edges.FULL);
    }

    static void promise20_aPlaceIsTakenAnew() {
        GateNames x = after(3);
        x.keep(1);
        x.undo(1);
        Edges.due("keep(1)", x.keep(1), 1);
        Edges.due("kept gates", x.count(9), 1);
        x.undo(0);
        Edges.due("on(1)", x.on(1), 1);
        GateNames twin = after(1);
        twin.keep(1);
        Edges.alike(x, twin);
    }

    static void promise20_allThreePlacesHoldTheirOwn() {
        GateNames x = after(10);
        x.keep(2);
        x.undo(5);
        x.keep(1);
        x.undo(0);
        x.keep(0);
        Edges.due("kept gates", x.count(9), 3);
        Edges.due("on(2)", x.on(2), 10);
        Edges.due("on(1)", x.on(1), 5);
        Edges.due("on(0)", x.on(0), 0);
    }

    static void promise20_theGateGoesOnAsItWas() {
        GateNames x = after(6);
        x.keep(0);
        Edges.due("deeds", x.count(2), 6);
        Edges.due("undo(2)", x.undo(2), 4);
        x.on(0);
        GateNames twin = after(6);
        twin.keep(0);
        Edges.alike(x, twin);
    }

    // ---- 21 on

    static void promise21_placesAre0To2() {
        Edges.takes(Edges::rich, 0, 2, (x, k) -> x.on(k));
        Edges.badOutside(Edges::bare, 0, 2, (x, k) -> x.on(k));
    }

    static void promise21_aMissingGateIsNothing() {
        Edges.finds(Edges::rich, x -> x.on(1), Edges.NOTHING);
        Edges.finds(Edges::bare, x -> x.on(0), Edges.NOTHING);
        Edges.finds(Edges::bare, x -> x.on(2), Edges.NOTHING);
    }

    static void promise21_aGateAnewLeavesNoneKept() {
        Edges.finds(() -> {
            GateNames x = Edges.rich();
            x.gate(0);
            return x;
        }, x -> x.on(0), Edges.NOTHING);
    }

    static void promise21_aGateRefusedLeavesThemKept() {
        GateNames x = Edges.rich();
        x.gate(2);
        x.gate(3);
        x.gate(4);
        Edges.due("on(0)", x.on(0), 1);
        Edges.due("on(2)", x.on(2), 3);
    }

    static void promise21_itIsAsItWasKeptFromFewerDeedsAndFromMore() {
        for (int kept = 0; kept <= 10; kept++) {
            for (int now : new int[] {0, 4, 10}) {
                GateNames x = after(kept);
                x.keep(1);
                goOnTo(x, now);
                Edges.due("on(1)", x.on(1), kept);
                GateNames twin = after(kept);
                twin.keep(1);
                Edges.alike(x, twin);
            }
        }
    }

    private static void goOnTo(GateNames x, int deeds) {
        x.undo(0);
        for (int k = 0; k < deeds; k++) {
            x.card(k % 7);
        }
    }

    static void promise21_whatIsDoneBehindItDoesNotChangeWhatIsKept() {
        GateNames x = after(3);
        x.keep(0);
        x.on(0);
        x.undo(1);
        x.go(6);
        x.card(1);
        x.lots(20, 9);
        Edges.due("on(0)", x.on(0), 3);
        GateNames twin = after(3);
        twin.keep(0);
        Edges.alike(x, twin);
    }

    static void promise21_othersStayKept() {
        GateNames x = Edges.rich();
        Edges.due("on(0)", x.on(0), 1);
        Edges.due("kept gates", x.count(9), 2);
        Edges.due("on(2)", x.on(2), 3);
        Edges.due("on(0) again", x.on(0), 1);
    }

    static void promise21_deedsOfNothingAreKeptToo() {
        GateNames x = Edges.gone("g09g09", 1);
        x.lots(1, 1);
        Edges.due("keep(0)", x.keep(0), 2);
        x.undo(0);
        Edges.due("on(0)", x.on(0), 2);
        Edges.due("those gone", x.count(4), 2);
    }
}
