/** Boundary cases of promises 30 to 35: kinds, the next to ask, by turns, chances, means, lots. */
public final class EdgesOfChancesTest {
    private static final String SEVEN_KINGS = "k99k99k99k99k99k99k99";
    private static final String SEVEN_STRANGERS = "g99g99g99g99g99g99g99";
    private static final int SEED_BEHIND_1 = 48271;

    public static void main(String[] args) throws ReflectiveOperationException {
        Edges.run(EdgesOfChancesTest.class, 30, 35);
    }

    /** Three goers, and pairs in row 0; something was asked before. */
    private static GateNames pairs(int... values) {
        return pairsAt("g19g29g39", values);
    }

    private static GateNames pairsAt(String gate, int... values) {
        GateNames x = Edges.gate(gate);
        Edges.fill(x, 1, 77);
        Edges.fill(x, 0, values);
        x.at(1, 0);
        return x;
    }

    private static GateNames oneLeft() {
        return Edges.gone("g39g40", 0);
    }

    private static GateNames sevenKingsGone() {
        return Edges.gone(SEVEN_KINGS, 0, 1, 2, 3, 4, 5, 6);
    }

    /** A gate behind so many deeds that change nothing. */
    private static GateNames behind(int deeds) {
        GateNames x = Edges.gate("g19m39");
        for (int k = 0; k < deeds; k++) {
            x.card(1);
        }
        Edges.due("deeds", x.count(2), deeds);
        return x;
    }

    // ---- 30 kinds

    static void promise30_goersAreNumberedFrom0() {
        Edges.takes(() -> pairs(0, 1), 0, 2, (x, i) -> x.kinds(i, 0));
        Edges.takes(Edges::rich, 0, 6, (x, i) -> x.kinds(i, 5));
    }

    static void promise30_rowsAreNumbered0To5() {
        Edges.takes(Edges::rich, 0, 5, (x, r) -> x.kinds(0, r));
    }

    static void promise30_withoutGoersAllIsBad() {
        Edges.refused(Edges::bare, x -> x.kinds(0, 0), Edges.BAD);
    }

    static void promise30_aMissingRowIsNothing() {
        Edges.finds(Edges::rich, x -> x.kinds(0, 4), Edges.NOTHING);
    }

    static void promise30_notByPairsIsSize() {
        Edges.finds(() -> pairs(0), x -> x.kinds(0, 0), Edges.SIZE);
        Edges.finds(() -> pairs(new int[39]), x -> x.kinds(0, 0), Edges.SIZE);
    }

    static void promise30_aNumberThatIsNoneIsUnlike() {
        for (int none : new int[] {-1, 8, Edges.LEAST, Edges.GREATEST}) {
            Edges.finds(() -> pairs(none, 0, 0, 0), x -> x.kinds(0, 0), Edges.UNLIKE);
            Edges.finds(() -> pairs(0, none, 0, 0), x -> x.kinds(0, 0), Edges.UNLIKE);
            Edges.finds(() -> pairs(0, 0, none, 0), x -> x.kinds(0, 0), Edges.UNLIKE);
            Edges.finds(() -> pairs(0, 0, 0, none), x -> x.kinds(0, 0), Edges.UNLIKE);
        }
    }

    static void promise30_theGreatestSetIsTakenTheNextIsUnlike() {
        Edges.due("7 of three", pairs(7, 7).kinds(0, 0), 16);
        Edges.due("3 of two", pairsAt("g09g09", 3, 3).kinds(0, 0), 16);
        Edges.due("127 of seven", pairsAt(SEVEN_STRANGERS, 127, 127).kinds(0, 0), 16);
        Edges.due("126 of seven", pairsAt(SEVEN_STRANGERS, 127, 126).kinds(0, 0), 32);
        Edges.finds(() -> pairsAt("g09g09", 4, 0), x -> x.kinds(0, 0), Edges.UNLIKE);
        Edges.finds(() -> pairsAt("g09g09", 0, 4), x -> x.kinds(0, 0), Edges.UNLIKE);
        Edges.finds(() -> pairsAt(SEVEN_STRANGERS, 128, 0), x -> x.kinds(0, 0), Edges.UNLIKE);
        Edges.finds(() -> pairsAt(SEVEN_STRANGERS, 0, 128), x -> x.kinds(0, 0), Edges.UNLIKE);
    }

    static void promise30_byNoPairsAllKinds() {
        Edges.aside(() -> pairs(), x -> x.kinds(0, 0), 63, 77);
    }

    static void promise30_byPairsThatNoneFitsNoKind() {
        Edges.aside(() -> pairs(6, 0, 6, 6), x -> x.kinds(0, 0), 0, 77);
        Edges.aside(() -> pairs(0, 6), x -> x.kinds(0, 0), 0, 77);
    }

    static void promise30_twentyPairsCountToTheLast() {
        int[] values = new int[40];
        Edges.due("mute or false", pairs(values).kinds(0, 0), 40);
        values[38] = 2;
        Edges.due("mute by the last pair", pairs(values).kinds(0, 0), 8);
        values[39] = 2;
        Edges.due("false by the last pair", pairs(values).kinds(0, 0), 32);
    }

    static void promise30_whatStandsBehindTheRowDoesNotCount() {
        GateNames x = pairs(0, 0, 6, 6);
        Edges.fill(x, 0, 0, 0);
        Edges.due("mute or false", x.kinds(0, 0), 40);
    }

    static void promise30_itselfDoesNotCountInWhatItWasTold() {
        Edges.due("tells of nobody", pairs(1, 0).kinds(0, 0), 40);
        Edges.due("tells of itself", pairs(1, 1).kinds(0, 0), 23);
        Edges.due("the last of them", pairs(4, 0).kinds(2, 0), 40);
    }

    static void promise30_badThenNothingThenSizeThenUnlike() {
        Edges.refused(Edges::rich, x -> x.kinds(7, 4), Edges.BAD);
        Edges.refused(Edges::rich, x -> x.kinds(0, 6), Edges.BAD);
        Edges.refused(() -> pairs(8), x -> x.kinds(3, 0), Edges.BAD);
        Edges.finds(() -> pairs(8), x -> x.kinds(0, 5), Edges.NOTHING);
        Edges.finds(() -> pairs(8), x -> x.kinds(0, 0), Edges.SIZE);
        Edges.finds(() -> pairs(0, -1, 9), x -> x.kinds(0, 0), Edges.SIZE);
    }

    static void promise30_whatItIsInTruthDoesNotCount() {
        Edges.aside(Edges::rich, x -> x.kinds(0, 5), 16, -7);
    }

    // ---- 31 test

    static void promise31_goersAreNumberedFrom0() {
        Edges.takes(() -> pairs(0, 1), 0, 2, (x, i) -> x.test(i, 0));
        Edges.takes(Edges::rich, 0, 6, (x, i) -> x.test(i, 5));
    }

    static void promise31_rowsAreNumbered0To5() {
        Edges.takes(Edges::rich, 0, 5, (x, r) -> x.test(0, r));
    }

    static void promise31_withoutGoersAllIsBad() {
        Edges.refused(Edges::bare, x -> x.test(0, 0), Edges.BAD);
    }

    static void promise31_aMissingRowIsNothing() {
        Edges.finds(Edges::rich, x -> x.test(0, 4), Edges.NOTHING);
    }

    static void promise31_notByPairsIsSize() {
        Edges.finds(() -> pairs(0), x -> x.test(0, 0), Edges.SIZE);
        Edges.finds(() -> pairs(new int[39]), x -> x.test(0, 0), Edges.SIZE);
    }

    static void promise31_aNumberThatIsNoneIsUnlike() {
        for (int none : new int[] {-1, 8, Edges.LEAST, Edges.GREATEST}) {
            Edges.finds(() -> pairs(none, 0), x -> x.test(0, 0), Edges.UNLIKE);
            Edges.finds(() -> pairs(0, none), x -> x.test(0, 0), Edges.UNLIKE);
        }
    }

    static void promise31_badThenNothingThenSizeThenUnlike() {
        Edges.refused(() -> pairs(8), x -> x.test(3, 0), Edges.BAD);
        Edges.refused(() -> pairs(8), x -> x.test(0, 6), Edges.BAD);
        Edges.finds(() -> pairs(8), x -> x.test(0, 5), Edges.NOTHING);
        Edges.finds(() -> pairs(8), x -> x.test(0, 0), Edges.SIZE);
    }

    static void promise31_whereThereIsNoKindNone() {
        Edges.refused(() -> pairs(6, 0, 6, 6), x -> x.test(0, 0), Edges.NONE);
        Edges.refused(() -> pairs(0, 6), x -> x.test(2, 0), Edges.NONE);
    }

    static void promise31_whereThereIsOneKindTheSetOfNobody() {
        Edges.aside(() -> pairs(6, 7), x -> x.test(0, 0), 0, 1);
        Edges.aside(() -> pairs(6, 0), x -> x.test(0, 0), 0, 1);
    }

    static void promise31_ofAllKindsTheFirstSetThatPartsThem() {
        Edges.aside(() -> pairs(), x -> x.test(0, 0), 2, 3);
        Edges.aside(() -> pairs(), x -> x.test(1, 0), 1, 3);
        Edges.aside(() -> pairsAt("g09g09"), x -> x.test(0, 0), 2, 3);
    }

    static void promise31_thoseThatTellAlikeAlwaysTheSetOfNobody() {
        Edges.aside(() -> pairs(2, 1), x -> x.test(0, 0), 0, 3);
    }

    static void promise31_twoThatOneSetParts() {
        Edges.aside(() -> pairs(0, 0), x -> x.test(0, 0), 2, 1);
        Edges.aside(() -> pairs(0, 0), x -> x.test(2, 0), 1, 1);
    }

    // ---- 32 duel

    static void promise32_withoutGoersItIsState() {
        Edges.refused(Edges::bare, x -> x.duel(), Edges.STATE);
    }

    static void promise32_whereEverybodyHasTheFirstHasLost() {
        Edges.aside(Edges::everybody, x -> x.duel(), 0, Edges.NONE);
        Edges.aside(EdgesOfChancesTest::sevenKingsGone, x -> x.duel(), 0, Edges.NONE);
    }

    static void promise32_whereItIsShutTheFirstHasLost() {
        Edges.aside(Edges::shut, x -> x.duel(), 0, Edges.NONE);
    }

    static void promise32_theOneThatIsLeft() {
        Edges.aside(EdgesOfChancesTest::oneLeft, x -> x.duel(), 1, 1);
    }

    static void promise32_theFirstByWhichItWins() {
        Edges.aside(() -> Edges.gate("g09g09"), x -> x.duel(), 1, 0);
        Edges.aside(() -> Edges.gate("g09g00"), x -> x.duel(), 1, 1);
        Edges.aside(() -> Edges.gate(SEVEN_KINGS), x -> x.duel(), 1, 0);
        Edges.aside(() -> Edges.gone(SEVEN_KINGS, 0, 1), x -> x.duel(), 1, 2);
    }

    static void promise32_whereItCanNotWinNoneIsTold() {
        Edges.aside(() -> Edges.gate("k09k09"), x -> x.duel(), 0, Edges.NONE);
        Edges.aside(() -> Edges.gone(SEVEN_KINGS, 0), x -> x.duel(), 0, Edges.NONE);
    }

    // ---- 33 odds

    static void promise33_pIs0To12() {
        Edges.takes(Edges::rich, 0, 12, (x, p) -> x.odds(p));
    }

    static void promise33_withoutGoersItIsState() {
        Edges.refused(Edges::bare, x -> x.odds(0), Edges.STATE);
        Edges.refused(Edges::bare, x -> x.odds(12), Edges.STATE);
    }

    static void promise33_badComesAheadOfState() {
        Edges.badOutside(Edges::bare, 0, 12, (x, p) -> x.odds(p));
    }

    static void promise33_whereEverybodyHas1By1() {
        for (int p : new int[] {0, 5, 12}) {
            GateNames x = Edges.everybody();
            Edges.parts(x, "odds(" + p + ")", x.odds(p), 1, 1);
            GateNames kings = sevenKingsGone();
            Edges.parts(kings, "odds(" + p + ")", kings.odds(p), 1, 1);
        }
    }

    static void promise33_whereNobodyComes1By1() {
        GateNames strangers = Edges.gate(SEVEN_STRANGERS);
        Edges.parts(strangers, "odds(12)", strangers.odds(12), 1, 1);
        GateNames shut = Edges.shut();
        Edges.parts(shut, "odds(12), shut", shut.odds(12), 1, 1);
    }

    static void promise33_whereAllCome0Or1By1() {
        GateNames strangers = Edges.gate(SEVEN_STRANGERS);
        Edges.parts(strangers, "odds(0)", strangers.odds(0), 0, 1);
        GateNames kings = Edges.gate(SEVEN_KINGS);
        Edges.parts(kings, "odds(0)", kings.odds(0), 1, 1);
    }

    static void promise33_theLeastAndTheGreatestChanceBetween() {
        GateNames strangers = Edges.gate(SEVEN_STRANGERS);
        Edges.parts(strangers, "odds(1)", strangers.odds(1), 13, 5971968);
        Edges.parts(strangers, "odds(11)", strangers.odds(11), 1771561, 1990656);
        GateNames shut = Edges.gone(SEVEN_STRANGERS, 0);
        Edges.parts(shut, "odds(1), shut", shut.odds(1), 1, 2985984);
        Edges.parts(shut, "odds(11), shut", shut.odds(11), 1771561, 2985984);
    }

    static void promise33_lowestTerms() {
        GateNames x = Edges.gone("g09g09", 0);
        long[][] due = {{0, 1}, {1, 12}, {1, 6}, {1, 4}, {1, 3}, {5, 12}, {1, 2},
            {7, 12}, {2, 3}, {3, 4}, {5, 6}, {11, 12}, {1, 1}};
        for (int p = 0; p <= 12; p++) {
            Edges.parts(x, "odds(" + p + ")", x.odds(p), due[p][0], due[p][1]);
        }
    }

    static void promise33_nothingElseChanges() {
        GateNames x = Edges.rich();
        x.odds(7);
        x.odds(5);
        Edges.alike(x, Edges.rich());
    }

    // ---- 34 mid

    static void promise34_pIs0To12() {
        Edges.takes(Edges::rich, 0, 12, (x, p) -> x.mid(p));
    }

    static void promise34_withoutGoersItIsState() {
        Edges.refused(Edges::bare, x -> x.mid(0), Edges.STATE);
        Edges.refused(Edges::bare, x -> x.mid(12), Edges.STATE);
    }

    static void promise34_badComesAheadOfState() {
        Edges.badOutside(Edges::bare, 0, 12, (x, p) -> x.mid(p));
    }

    static void promise34_whereEverybodyHas0By1() {
        for (int p : new int[] {0, 5, 12}) {
            GateNames x = Edges.everybody();
            Edges.parts(x, "mid(" + p + ")", x.mid(p), 0, 1);
            GateNames kings = sevenKingsGone();
            Edges.parts(kings, "mid(" + p + ")", kings.mid(p), 0, 1);
        }
    }

    static void promise34_whereItIsShutOrNobodyComes0By1() {
        GateNames shut = Edges.shut();
        Edges.parts(shut, "mid(0), shut", shut.mid(0), 0, 1);
        Edges.parts(shut, "mid(7), shut", shut.mid(7), 0, 1);
        GateNames kings = Edges.gate(SEVEN_KINGS);
        Edges.parts(kings, "mid(12)", kings.mid(12), 0, 1);
    }

    static void promise34_whereAllComeTheMostBy1() {
        GateNames kings = Edges.gate(SEVEN_KINGS);
        Edges.parts(kings, "mid(0)", kings.mid(0), 7, 1);
        GateNames strangers = Edges.gate(SEVEN_STRANGERS);
        Edges.parts(strangers, "mid(0)", strangers.mid(0), 1, 1);
    }

    static void promise34_theLeastAndTheGreatestMeanBetween() {
        GateNames strangers = Edges.gate(SEVEN_STRANGERS);
        Edges.parts(strangers, "mid(1)", strangers.mid(1), 35831807, 35831808);
        Edges.parts(strangers, "mid(11)", strangers.mid(11), 16344637, 35831808);
        GateNames kings = Edges.gate(SEVEN_KINGS);
        Edges.parts(kings, "mid(1)", kings.mid(1), 77, 12);
        Edges.parts(kings, "mid(6)", kings.mid(6), 7, 2);
        Edges.parts(kings, "mid(11)", kings.mid(11), 7, 12);
    }

    static void promise34_nothingElseChanges() {
        GateNames x = Edges.rich();
        x.mid(7);
        x.odds(5);
        Edges.alike(x, Edges.rich());
    }

    // ---- 35 lots

    static void promise35_nIs1To20() {
        Edges.takes(() -> behind(0), 1, 20, (x, n) -> x.lots(n, 1));
    }

    static void promise35_aSeedIs1To2147483646() {
        Edges.takes(() -> behind(0), 1, 2147483646, (x, seed) -> x.lots(1, seed));
    }

    static void promise35_withoutGoersItIsState() {
        Edges.refused(Edges::bare, x -> x.lots(1, 1), Edges.STATE);
        Edges.refused(Edges::bare, x -> x.lots(20, 2147483646), Edges.STATE);
    }

    static void promise35_badComesAheadOfState() {
        Edges.badOutside(Edges::bare, 1, 20, (x, n) -> x.lots(n, 1));
        Edges.badOutside(Edges::bare, 1, 2147483646, (x, seed) -> x.lots(1, seed));
    }

    static void promise35_upTo40DeedsMoreIsFull() {
        for (int n : new int[] {1, 20}) {
            GateNames x = behind(40 - n);
            Edges.due("lots(" + n + ", 3) refused", x.lots(n, 3) < 0 ? 1 : 0, 0);
            Edges.due("deeds", x.count(2), 40);
            Edges.refused(() -> behind(41 - n), y -> y.lots(n, 3), Edges.FULL);
        }
        Edges.refused(() -> behind(40), x -> x.lots(20, 3), Edges.FULL);
        Edges.refused(Edges::full, x -> x.lots(1, 1), Edges.FULL);
    }

    static void promise35_fullComesLast() {
        Edges.badOutside(Edges::full, 1, 20, (x, n) -> x.lots(n, 1));
        Edges.badOutside(Edges::full, 1, 2147483646, (x, seed) -> x.lots(1, seed));
    }

    static void promise35_theLeastAndTheGreatestSeed() {
        // 48271: modulo 4 it is 3, and 48271 / 8 = 6033: 1 of two goes through
        GateNames least = Edges.gate("g09g09");
        Edges.due("lots(1, 1)", least.lots(1, 1), 1);
        Edges.due("those gone", least.count(4), 2);
        // 2147435376: modulo 4 it is 0, by 8 it is 268429422, by 64 33553677: 0 and 1 of two meet
        GateNames greatest = Edges.gate("g09g09");
        Edges.due("lots(1, 2147483646)", greatest.lots(1, 2147483646), 0);
        Edges.asks(greatest, "goer(0, 2)", greatest.goer(0, 2), 1, 2);
        Edges.asks(greatest, "goer(1, 2)", greatest.goer(1, 2), 1, 1);
        Edges.due("deeds", greatest.count(2), 1);
    }

    static void promise35_eachNumberComesFromTheOneAhead() {
        GateNames x = Edges.gate("i09g09");
        x.lots(2, 1);
        GateNames twin = Edges.gate("i09g09");
        twin.lots(1, 1);
        twin.lots(1, SEED_BEHIND_1);
        Edges.alike(x, twin);
    }

    static void promise35_oneThatWouldMeetItselfDoesNothing() {
        // 4 * 48271 = 193084: by 8 it is 24135, by 64 3016, both 6 modulo 7
        GateNames x = Edges.gate(SEVEN_STRANGERS);
        Edges.due("lots(1, 4)", x.lots(1, 4), 0);
        dueIdle(x, Edges.gate(SEVEN_STRANGERS), 1);
    }

    static void promise35_oneGoneDoesNothing() {
        // of two: 4 is 1 meets 0, 3 is a card of 1, 48271 is 0 reads, 1 is 1 goes through
        dueNothing(0, 4, 1);
        dueNothing(1, 4, 1);
        dueNothing(1, 3, 1);
        dueNothing(0, SEED_BEHIND_1, 1);
        dueNothing(1, 1, 1);
    }

    static void promise35_oneToWhomItIsShutDoesNothing() {
        dueNothing(0, 1, 1);
    }

    private static void dueNothing(int goneOne, int seed, int through) {
        GateNames x = Edges.gate("g09g09");
        x.card(1 - goneOne);
        x.go(goneOne);
        Edges.due("lots(1, " + seed + ")", x.lots(1, seed), through);
        GateNames before = Edges.gate("g09g09");
        before.card(1 - goneOne);
        before.go(goneOne);
        dueIdle(x, before, 3);
    }

    /** There is one deed more, and nothing else is otherwise. */
    private static void dueIdle(GateNames x, GateNames before, int deeds) {
        Edges.due("deeds", x.count(2), deeds);
        for (int i = 0; i < before.count(0); i++) {
            for (int what = 0; what < 7; what++) {
                before.goer(i, what);
                Edges.asks(x, "goer(" + i + ", " + what + ")", x.goer(i, what), 1, before.asked());
            }
        }
        for (int what : new int[] {1, 3, 4, 5, 6}) {
            Edges.due("count(" + what + ")", x.count(what), before.count(what));
        }
        Edges.due("undo()", x.undo(deeds - 1), 1);
    }

    static void promise35_whereEverybodyHasAllAreDeedsOfNothing() {
        GateNames x = Edges.everybody();
        Edges.due("lots(20, 5)", x.lots(20, 5), 2);
        Edges.due("deeds", x.count(2), 22);
        Edges.due("undo(2)", x.undo(2), 20);
        Edges.alike(x, Edges.everybody());
    }

    static void promise35_whatWasToldStays() {
        GateNames x = Edges.rich();
        x.lots(20, 77);
        Edges.due("asked()", x.asked(), -7);
        x.undo(4);
        Edges.alike(x, Edges.rich());
    }
}
