/** Boundary cases of promises 10 to 14: faults of texts, gates, goers, what they tell of. */
public final class EdgesOfGatesTest {
    private static final String SEVEN = "g09g09g09g09g09g09g09";
    private static final String EACH_KIND = "g09k09s09m09i09f09";

    public static void main(String[] args) throws ReflectiveOperationException {
        Edges.run(EdgesOfGatesTest.class, 10, 14);
    }

    private static void fault(String text, int due) {
        GateNames x = new GateNames();
        Edges.write(x, 3, text);
        Edges.due("fault() of \"" + text + "\"", x.fault(3), due);
        Edges.due("whether \"" + text + "\" is a gate", x.gate(3) > 0 ? 1 : 0, due == Edges.NONE ? 1 : 0);
    }

    /** Each of the 256 bytes at a place of a text: no fault by good ones, the next place by some, else this one. */
    private static void faultsOfBytes(String text, int place, String good, String next) {
        for (int sign = 0; sign < 256; sign++) {
            GateNames x = new GateNames();
            Edges.write(x, 0, text);
            x.put(0, place, sign);
            int due = good.indexOf(sign) >= 0 ? Edges.NONE : next.indexOf(sign) >= 0 ? place + 1 : place;
            Edges.due("fault() by byte " + sign, x.fault(0), due);
        }
    }

    // ---- 10 fault

    static void promise10_textsAreNumbered0To3() {
        Edges.takes(Edges::rich, 0, 3, (x, t) -> x.fault(t));
    }

    static void promise10_aMissingTextIsNothing() {
        Edges.finds(Edges::bare, x -> x.fault(0), Edges.NOTHING);
        Edges.finds(Edges::rich, x -> x.fault(3), Edges.NOTHING);
    }

    static void promise10_ofAnEmptyTextItIs0() {
        fault("", 0);
    }

    static void promise10_ofBlanksAloneItIsTheSize() {
        fault(" ", 1);
        fault("  ", 2);
        fault(" ".repeat(60), 60);
    }

    static void promise10_ofLessThan2GoersItIsTheSize() {
        fault("g00", 3);
        fault(" g00", 4);
        fault("g00  ", 5);
        fault(" ".repeat(57) + "g00", 60);
        fault("g00" + " ".repeat(57), 60);
    }

    static void promise10_2GoersAnd7HaveNone() {
        fault("g00g00", Edges.NONE);
        fault(SEVEN, Edges.NONE);
    }

    static void promise10_anEighthGoerIsOneAtItsPlace() {
        fault(SEVEN + "g00", 21);
        fault(SEVEN + "   g00", 24);
        fault(SEVEN + "g", 21);
        fault(SEVEN + " ".repeat(38) + "g", 59);
    }

    static void promise10_anyOtherSignBehindTheSeventhIsOneAtItsPlace() {
        fault(SEVEN + "0", 21);
        fault(SEVEN + " ?", 22);
    }

    static void promise10_anEndTooEarlyIsOneAtTheSize() {
        fault("g", 1);
        fault("g0", 2);
        fault("g00g", 4);
        fault("g00g0", 5);
        fault(SEVEN.substring(0, 20), 20);
        fault(" ".repeat(55) + "g00g0", 60);
        fault(" ".repeat(56) + "g00g", 60);
    }

    static void promise10_anItemMayEndWithTheText() {
        fault(" ".repeat(54) + "g00g00", Edges.NONE);
        fault("g00" + " ".repeat(54) + "g00", Edges.NONE);
        fault("g00g00" + " ".repeat(54), Edges.NONE);
    }

    static void promise10_blanksAreAsManyAsWantedOrNone() {
        fault("g00g00g00", Edges.NONE);
        fault(" g00 g00 ", Edges.NONE);
        fault("   g00     g00g00   ", Edges.NONE);
    }

    static void promise10_noBlanksStandWithinItems() {
        fault("g 00g00", 1);
        fault("g0 0g00", 2);
        fault("g00g 00", 4);
        fault("g00g0 0", 5);
        fault("g00g ", 4);
        fault("g00g0 ", 5);
    }

    static void promise10_sixLettersAndTheBlankStandAheadOfAnItem() {
        faultsOfBytes("   g00g00", 0, " ", "gksmif");
        faultsOfBytes("g00g00", 0, "gksmif", " ");
        faultsOfBytes("g00g00", 3, "gksmif", " ");
        faultsOfBytes("g00g00?", 6, " ", "gksmif");
    }

    static void promise10_figuresAre0To9() {
        faultsOfBytes("g00g00", 1, "0123456789", "");
        faultsOfBytes("g00g00", 2, "0123456789", "");
        faultsOfBytes("g00g00", 4, "0123456789", "");
        faultsOfBytes("g00g00", 5, "0123456789", "");
    }

    static void promise10_itIsTheFirstOfSeveral() {
        fault("?00g?0", 0);
        fault("g?0g?0", 1);
        fault("g0?g?0", 2);
        fault("g00??0", 3);
        fault("?", 0);
        fault("g?", 1);
        fault(" ?" + SEVEN + "g00", 1);
    }

    static void promise10_aTextIsAsItWas() {
        GateNames x = Edges.rich();
        long before = x.digest();
        Edges.due("fault(0)", x.fault(0), Edges.NONE);
        Edges.due("fault(2)", x.fault(2), 5);
        Edges.due("digest()", x.digest(), before);
        Edges.due("asked()", x.asked(), -7);
    }

    // ---- 11 gate

    static void promise11_textsAreNumbered0To3() {
        Edges.badOutside(Edges::rich, 0, 3, (x, t) -> x.gate(t));
        for (int t : new int[] {0, 3}) {
            GateNames x = new GateNames();
            Edges.write(x, t, "g00g00");
            Edges.due("gate(" + t + ")", x.gate(t), 2);
        }
    }

    static void promise11_aMissingTextIsNothing() {
        Edges.finds(Edges::bare, x -> x.gate(0), Edges.NOTHING);
        Edges.finds(Edges::rich, x -> x.gate(1), Edges.NOTHING);
    }

    static void promise11_aFaultIsState() {
        Edges.refused(Edges::rich, x -> x.gate(2), Edges.STATE);
        for (String text : new String[] {"", " ", "g00", SEVEN + "g00", "g00g0"}) {
            Edges.refused(() -> {
                GateNames x = Edges.rich();
                Edges.write(x, 1, text);
                return x;
            }, x -> x.gate(1), Edges.STATE);
        }
    }

    static void promise11_itAnswersHowManyGoers() {
        for (int goers = 2; goers <= 7; goers++) {
            GateNames x = new GateNames();
            Edges.write(x, 0, " " + SEVEN.substring(0, 3 * goers) + " ");
            Edges.due("gate(0)", x.gate(0), goers);
            Edges.due("count(0)", x.count(0), goers);
        }
    }

    static void promise11_lettersAreOfKinds0To5() {
        GateNames x = Edges.gate(EACH_KIND);
        for (int i = 0; i < 6; i++) {
            Edges.asks(x, "goer(" + i + ", 0)", x.goer(i, 0), 1, i);
        }
        GateNames back = Edges.gate("f09i09m09s09k09g09");
        for (int i = 0; i < 6; i++) {
            Edges.asks(back, "goer(" + i + ", 0)", back.goer(i, 0), 1, 5 - i);
        }
    }

    static void promise11_worthIs0To9() {
        GateNames x = Edges.gate("g09k99");
        Edges.asks(x, "goer(0, 1)", x.goer(0, 1), 1, 0);
        Edges.asks(x, "goer(1, 1)", x.goer(1, 1), 1, 9);
    }

    static void promise11_toldOfNobodyIfItIsThereNoneOrItself() {
        GateNames x = Edges.gate("g00g00g01g03g05g06");
        int[] told = {0, 1, 2, 0, 32, 0};
        for (int i = 0; i < 6; i++) {
            Edges.asks(x, "goer(" + i + ", 2)", x.goer(i, 2), 1, told[i]);
        }
        GateNames two = Edges.gate("g01g02");
        Edges.asks(two, "the last that is there", two.goer(0, 2), 1, 2);
        Edges.asks(two, "the first that is not", two.goer(1, 2), 1, 0);
        GateNames seven = Edges.gate("g06g07g08g09g00g00g06");
        int[] of = {64, 0, 0, 0, 1, 1, 0};
        for (int i = 0; i < 7; i++) {
            Edges.asks(seven, "goer(" + i + ", 2)", seven.goer(i, 2), 1, of[i]);
        }
    }

    static void promise11_allIsAnewAndKeptGatesGo() {
        GateNames x = Edges.full();
        Edges.due("gate(0)", x.gate(0), 7);
        GateNames fresh = Edges.gate("k11g20s39m42i50f61s72");
        for (int what = 0; what <= 6; what++) {
            Edges.due("count(" + what + ")", x.count(what), fresh.count(what));
            for (int i = 0; i < 7; i++) {
                fresh.goer(i, what);
                Edges.asks(x, "goer(" + i + ", " + what + ")", x.goer(i, what), 1, fresh.asked());
            }
        }
        Edges.due("kept gates", x.count(9), 0);
        for (int k = 0; k < 3; k++) {
            Edges.due("on(" + k + ")", x.on(k), Edges.FINDING);
        }
        Edges.due("undo(1)", x.undo(1), Edges.BAD);
    }

    static void promise11_nothingOfAGreaterGateIsLeft() {
        GateNames x = Edges.rich();
        Edges.write(x, 1, "g06g05");
        Edges.due("gate(1)", x.gate(1), 2);
        int[][] due = {{0, 0, 0, 1, 1, 0, 1}, {0, 0, 0, 2, 2, 0, 1}};
        for (int i = 0; i < 2; i++) {
            for (int what = 0; what < 7; what++) {
                Edges.asks(x, "goer(" + i + ", " + what + ")", x.goer(i, what), 1, due[i][what]);
            }
        }
        Edges.due("singers", x.count(10), 0);
        Edges.due("kings", x.count(11), 0);
        Edges.due("goer(2, 0)", x.goer(2, 0), Edges.BAD);
        x.gate(0);
        Edges.due("back at the first one", x.count(11), 1);
    }

    static void promise11_rowsAndTextsAndWhatWasToldStay() {
        GateNames x = Edges.rich();
        x.gate(0);
        Edges.due("asked()", x.asked(), -7);
        Edges.due("lower() above 1", x.lower() > 1 ? 1 : 0, 1);
        Edges.due("rows", x.count(7), 3);
        Edges.due("texts", x.count(8), 2);
        Edges.rowIs(x, 0, 5, -7, 9);
    }

    static void promise11_aTextThatChangesLaterChangesNoGate() {
        GateNames x = Edges.gate("g31k42");
        x.text(0, 0);
        Edges.due("goers", x.count(0), 2);
        Edges.asks(x, "goer(1, 1)", x.goer(1, 1), 1, 4);
        Edges.due("meet(0, 1)", x.meet(0, 1), 1);
        Edges.due("undo(0)", x.undo(0), 1);
        Edges.asks(x, "goer(0, 2)", x.goer(0, 2), 1, 2);
        Edges.asks(x, "goer(1, 2)", x.goer(1, 2), 1, 0);
    }

    static void promise11_badThenNothingThenState() {
        Edges.refused(Edges::bare, x -> x.gate(4), Edges.BAD);
        Edges.finds(Edges::bare, x -> x.gate(3), Edges.NOTHING);
        Edges.refused(() -> {
            GateNames x = new GateNames();
            x.text(3, 0);
            return x;
        }, x -> x.gate(3), Edges.STATE);
    }

    // ---- 12 goer

    static void promise12_goersAreNumberedFrom0() {
        Edges.takes(Edges::rich, 0, 6, (x, i) -> x.goer(i, 0));
        Edges.takes(() -> Edges.gate("g00g00"), 0, 1, (x, i) -> x.goer(i, 6));
    }

    static void promise12_whatIs0To6() {
        Edges.takes(Edges::rich, 0, 6, (x, what) -> x.goer(0, what));
    }

    static void promise12_withoutGoersAllIsBad() {
        for (int what = 0; what < 7; what++) {
            int number = what;
            Edges.refused(Edges::bare, x -> x.goer(0, number), Edges.BAD);
        }
    }

    static void promise12_itTellsAndChangesNothing() {
        int[] due = {4, 5, 3, 19, 19, 0, 1};
        for (int what = 0; what < 7; what++) {
            int number = what;
            Edges.aside(Edges::rich, x -> x.goer(4, number), 1, due[what]);
        }
    }

    static void promise12_toldOfNobodyAndOfAll() {
        GateNames x = Edges.gate("i09g09g09g09g09g09f09");
        int[] lone = {4, 0, 0, 1, 1, 0, 1};
        for (int what = 1; what < 7; what++) {
            Edges.asks(x, "goer(0, " + what + ")", x.goer(0, what), 1, lone[what]);
        }
        for (int i = 0; i < 7; i++) {
            x.card(i);
        }
        x.meet(0, 6);
        Edges.due("0 reads", x.reads(0), 5);
        Edges.due("the stone without the false one", x.count(5), 63);
        Edges.asks(x, "told of all but itself and the false one", x.goer(0, 2), 1, 62);
        Edges.asks(x, "tells of them and itself", x.goer(0, 3), 1, 63);
        Edges.asks(x, "can name them and itself", x.goer(0, 4), 1, 63);
    }

    static void promise12_itCanNameEachKingAndItselfUntold() {
        GateNames x = Edges.gate("k09g09k09m09");
        int[] due = {5, 7, 5, 13};
        for (int i = 0; i < 4; i++) {
            Edges.asks(x, "goer(" + i + ", 4)", x.goer(i, 4), 1, due[i]);
        }
    }

    static void promise12_itCanNameEachSmithIfItIsOneOrWasToldOfOne() {
        GateNames x = Edges.gate("s09s09g00g02g09s01");
        int[] due = {35, 35, 39, 12, 16, 35};
        for (int i = 0; i < 6; i++) {
            Edges.asks(x, "goer(" + i + ", 4)", x.goer(i, 4), 1, due[i]);
        }
    }

    static void promise12_oneThatHasGoneThrough() {
        GateNames x = Edges.gone("k09g00", 0);
        Edges.asks(x, "goer(0, 5)", x.goer(0, 5), 1, 1);
        Edges.asks(x, "goer(0, 6), who can name itself", x.goer(0, 6), 1, 0);
        Edges.asks(x, "goer(1, 5)", x.goer(1, 5), 1, 0);
        Edges.asks(x, "goer(1, 6)", x.goer(1, 6), 1, 1);
    }

    static void promise12_whereNobodyOrEverybodyHasGoneThrough() {
        GateNames nobody = Edges.gate("g09g09");
        GateNames everybody = Edges.everybody();
        for (int i = 0; i < 2; i++) {
            Edges.asks(nobody, "goer(" + i + ", 5)", nobody.goer(i, 5), 1, 0);
            Edges.asks(nobody, "goer(" + i + ", 6)", nobody.goer(i, 6), 1, 1);
            Edges.asks(everybody, "goer(" + i + ", 5)", everybody.goer(i, 5), 1, 1);
            Edges.asks(everybody, "goer(" + i + ", 6)", everybody.goer(i, 6), 1, 0);
        }
    }

    // ---- 13 mark

    static void promise13_goersAreNumberedFrom0() {
        Edges.takes(() -> Edges.gate("k09k09"), 0, 1, (x, i) -> x.mark(i, 1));
        Edges.takes(() -> Edges.gate("k09g09g09g09g09g09k09"), 0, 6, (x, i) -> x.mark(i, 1));
    }

    static void promise13_kindsAre1To5() {
        Edges.takes(Edges::rich, 1, 5, (x, kind) -> x.mark(0, kind));
        Edges.refused(Edges::rich, x -> x.mark(1, 0), Edges.BAD);
    }

    static void promise13_withoutGoersAllIsBad() {
        for (int kind = 1; kind <= 5; kind++) {
            int number = kind;
            Edges.refused(Edges::bare, x -> x.mark(0, number), Edges.BAD);
        }
    }

    static void promise13_oneOfAnotherKindIsUnlike() {
        for (int i = 0; i < 6; i++) {
            for (int k = 1; k < 6; k++) {
                int goer = i;
                int kind = k;
                boolean isOne = i == k || (i == 5 && k == 4);
                if (isOne) {
                    int mark = Edges.gate(EACH_KIND).mark(i, k);
                    Edges.due("whether " + i + " is of kind " + k, mark >= 0 ? 1 : 0, 1);
                } else {
                    Edges.finds(() -> Edges.gate(EACH_KIND), x -> x.mark(goer, kind), Edges.UNLIKE);
                }
            }
        }
    }

    static void promise13_badComesAheadOfUnlike() {
        Edges.refused(Edges::rich, x -> x.mark(7, 3), Edges.BAD);
        Edges.refused(Edges::rich, x -> x.mark(0, 6), Edges.BAD);
    }

    static void promise13_ofAKingTheOthersThatWereNotToldOfIt() {
        Edges.due("none was", Edges.gate("k09k09k09k09k09k09k09").mark(6, 1), 6);
        Edges.due("all were", Edges.gate("k09g00k00").mark(0, 1), 0);
        Edges.due("the first was", Edges.gate("g01k09").mark(1, 1), 0);
        Edges.due("one of two was", Edges.gate("k09g00s09").mark(0, 1), 1);
        Edges.due("it went through", Edges.gone("k09g00s09", 0).mark(0, 1), 1);
        Edges.due("all went through", Edges.gone("k09g09", 0, 1).mark(0, 1), 1);
    }

    static void promise13_ofASmithTheOthersThatCanNameItUntold() {
        Edges.due("the only Smith", Edges.gate("s09g09k09").mark(0, 2), 0);
        Edges.due("seven Smiths", Edges.gate("s09s09s09s09s09s09s09").mark(3, 2), 6);
        Edges.due("one told of it does not count", Edges.gate("s09g00s00").mark(0, 2), 0);
        Edges.due("one told of another Smith does", Edges.gate("s09s09g01").mark(0, 2), 2);
        Edges.due("and so does one gone", Edges.gone("s09s09g01", 1, 2).mark(0, 2), 2);
    }

    static void promise13_ofAMuteTheOthersThatCanNameIt() {
        Edges.due("none", Edges.gate("m00g09m09").mark(0, 3), 0);
        Edges.due("all others", Edges.gate("m09g00g00g00g00g00k00").mark(0, 3), 6);
        Edges.due("one gone too", Edges.gone("m09g00", 1).mark(0, 3), 1);
    }

    static void promise13_ofASingerOfHowManyItTells() {
        Edges.due("itself alone", Edges.gate("i09g09").mark(0, 4), 1);
        Edges.due("a false one of nobody", Edges.gate("f09g09").mark(0, 4), 0);
        Edges.due("a false one of another", Edges.gate("f01g09").mark(0, 4), 1);
        GateNames x = Edges.gate("i09g09g09g09g09g09g09");
        for (int i = 1; i < 7; i++) {
            x.card(i);
        }
        x.reads(0);
        Edges.due("all", x.mark(0, 4), 7);
        x.go(1);
        Edges.due("all, one of them gone", x.mark(0, 4), 7);
        Edges.due("all, itself gone", x.go(0) == 2 ? x.mark(0, 4) : -1, 7);
    }

    static void promise13_ofAFalseOneOfHowManyThatHaveNotGoneItTells() {
        Edges.due("nobody", Edges.gate("f09g09").mark(0, 5), 0);
        Edges.due("one", Edges.gate("f01g09").mark(0, 5), 1);
        Edges.due("one gone", Edges.gone("f01g09", 1).mark(0, 5), 0);
        Edges.due("it is gone itself", Edges.gone("f01g09", 0).mark(0, 5), 1);
        Edges.due("everybody is", Edges.gone("f01g00", 0, 1).mark(0, 5), 0);
    }

    static void promise13_nothingChanges() {
        Edges.aside(Edges::rich, x -> x.mark(0, 1), 3, -7);
        Edges.aside(Edges::rich, x -> x.mark(4, 4), 3, -7);
        Edges.aside(Edges::rich, x -> x.mark(5, 5), 1, -7);
    }

    // ---- 14 tells

    static void promise14_goersAreNumberedFrom0() {
        Edges.takes(Edges::rich, 0, 6, (x, i) -> x.tells(i, 0));
        Edges.takes(() -> Edges.gate("g00g00"), 0, 1, (x, i) -> x.tells(i, 0));
    }

    static void promise14_aSetIs0ToAsManyAsAreThere() {
        Edges.takes(Edges::rich, 0, 127, (x, set) -> x.tells(4, set));
        Edges.takes(() -> Edges.gate("g00g00"), 0, 3, (x, set) -> x.tells(0, set));
    }

    static void promise14_withoutGoersAllIsBad() {
        Edges.refused(Edges::bare, x -> x.tells(0, 0), Edges.BAD);
    }

    static void promise14_toldOfNobodyOfItselfOfAll() {
        GateNames x = Edges.gate(EACH_KIND + "g09");
        int[] ofNobody = {1, 2, 4, 0, 16, 0};
        int[] ofAll = {1, 2, 4, 0, 127, 95};
        for (int i = 0; i < 6; i++) {
            Edges.due("tells(" + i + ", 0)", x.tells(i, 0), ofNobody[i]);
            Edges.due("tells(" + i + ", itself)", x.tells(i, 1 << i), ofNobody[i]);
            Edges.due("tells(" + i + ", 127)", x.tells(i, 127), ofAll[i]);
        }
    }

    static void promise14_whatItWasToldInTruthDoesNotCount() {
        GateNames x = Edges.gate("i01f00");
        Edges.due("tells(0, 0)", x.tells(0, 0), 1);
        Edges.due("tells(1, 0)", x.tells(1, 0), 0);
    }

    static void promise14_nothingChangesAndOneGoneTellsToo() {
        Edges.aside(Edges::rich, x -> x.tells(4, 96), 112, -7);
        Edges.aside(Edges::rich, x -> x.tells(0, 127), 1, -7);
    }
}
