/** Boundary cases of promises 36 to 42: what is told, counted, found, the digest. */
public final class EdgesOfTellingTest {
    public static void main(String[] args) throws ReflectiveOperationException {
        Edges.run(EdgesOfTellingTest.class, 36, 42);
    }

    private static void askedBy(String what, Edges.Scene scene, Edges.Call call, int due) {
        GateNames x = scene.make();
        call.on(x);
        Edges.due("asked() behind " + what, x.asked(), due);
    }

    /** asked() is -7 behind the rich scene, and must stay so. */
    private static void askedStays(String what, Edges.Call call) {
        askedBy(what, Edges::rich, call, -7);
    }

    // ---- 36 asked

    static void promise36_before0() {
        Edges.due("asked()", new GateNames().asked(), 0);
    }

    static void promise36_eachCallThatTellsByIt() {
        askedBy("lay()", Edges::rich, x -> x.lay(0, 2, 1), 9);
        askedBy("at()", Edges::rich, x -> x.at(0, 0), 5);
        askedBy("mean()", Edges::rich, x -> x.mean(0), 2);
        askedBy("goer()", Edges::rich, x -> x.goer(6, 1), 7);
        askedBy("open()", Edges::rich, x -> x.open(), 7);
        askedBy("worth()", () -> Edges.gate("g09g99"), x -> x.worth(), 1);
        askedBy("meetings()", () -> Edges.gate("g09g99"), x -> x.meetings(), 1);
        askedBy("stone()", () -> Edges.gate("g09g99"), x -> x.stone(), 2);
        askedBy("hold()", () -> Edges.gate("g09g99"), x -> x.hold(), 1);
        askedBy("test()", Edges::rich, x -> x.test(1, 3), 3);
        askedBy("duel()", () -> Edges.gate("g09g00"), x -> x.duel(), 1);
    }

    static void promise36_eachCallThatDoesNotTellByItLeavesIt() {
        askedStays("row()", x -> x.row(1, 2));
        askedStays("tear()", x -> x.tear(0));
        askedStays("copy()", x -> x.copy(0, 0, 0, 1, 2));
        askedStays("text()", x -> x.text(1, 2));
        askedStays("put()", x -> x.put(0, 0, 1));
        askedStays("fault()", x -> x.fault(2));
        askedStays("gate()", x -> x.gate(0));
        askedStays("mark()", x -> x.mark(0, 1));
        askedStays("tells()", x -> x.tells(4, 7));
        askedStays("meet()", x -> x.meet(1, 2));
        askedStays("card()", x -> x.card(1));
        askedStays("reads()", x -> x.reads(1));
        askedStays("go()", x -> x.go(1));
        askedStays("undo()", x -> x.undo(0));
        askedStays("keep()", x -> x.keep(1));
        askedStays("on()", x -> x.on(0));
        askedStays("most()", x -> x.most(1));
        askedStays("orders()", x -> x.orders());
        askedStays("last()", x -> x.last(3));
        askedStays("kinds()", x -> x.kinds(0, 5));
        askedStays("odds()", x -> x.odds(3));
        askedStays("mid()", x -> x.mid(3));
        askedStays("lots()", x -> x.lots(20, 3));
        askedStays("count()", x -> x.count(0));
        askedStays("findings()", x -> x.findings(1));
        askedStays("digest()", x -> (int) x.digest());
        askedStays("asked(), upper(), lower(), finding()",
            x -> (int) (x.asked() + x.upper() + x.lower() + x.finding()));
    }

    static void promise36_whatIsRefusedLeavesIt() {
        askedStays("lay()", x -> x.lay(0, 3, 1));
        askedStays("at()", x -> x.at(6, 0));
        askedStays("mean()", x -> x.mean(3));
        askedStays("goer()", x -> x.goer(7, 0));
        askedStays("test()", x -> x.test(0, 4));
        GateNames none = new GateNames();
        none.row(0, 1);
        none.lay(0, 0, 44);
        none.at(0, 0);
        int refused = none.worth() + none.meetings() + none.stone() + none.hold() + none.duel();
        Edges.due("five times STATE", refused, 5 * Edges.STATE);
        Edges.due("asked() behind them", none.asked(), 44);
    }

    static void promise36_whatAnsweredNoneLeavesIt() {
        noneLeavesAsked("stone()", Edges.everybody(), x -> x.stone());
        noneLeavesAsked("hold()", Edges.everybody(), x -> x.hold());
        noneLeavesAsked("meetings()", Edges.shut(), x -> x.meetings());
        noneLeavesAsked("test()", Edges.shut(), x -> x.test(0, 0));
    }

    private static void noneLeavesAsked(String what, GateNames x, Edges.Call call) {
        // told of nobody it tells of two: no kind does
        Edges.fill(x, 0, 0, 3);
        Edges.fill(x, 1, 44);
        x.at(1, 0);
        Edges.due(what, call.on(x), Edges.NONE);
        Edges.due("asked() behind " + what, x.asked(), 44);
    }

    static void promise36_noneIsToldByADuelThatIsLost() {
        askedBy("duel()", Edges::everybody, x -> x.duel(), Edges.NONE);
    }

    static void promise36_itIsTheLatestAndStaysWhenAskedAgain() {
        GateNames x = Edges.rich();
        x.at(0, 0);
        x.at(0, 2);
        Edges.due("asked()", x.asked(), 9);
        Edges.due("asked() again", x.asked(), 9);
    }

    // ---- 37 upper, 38 lower

    static void promise37_before0() {
        Edges.due("upper()", new GateNames().upper(), 0);
    }

    static void promise38_before1() {
        Edges.due("lower()", new GateNames().lower(), 1);
    }

    private static GateNames told() {
        GateNames x = Edges.gone("g09g09", 0);
        Edges.parts(x, "odds(5)", x.odds(5), 5, 12);
        return x;
    }

    private static final Edges.Call[] TELLING_NO_PARTS = {
        x -> x.odds(13), x -> x.odds(-1), x -> x.mid(13), x -> x.mid(-1), x -> x.gate(0), x -> x.undo(0),
        x -> x.open(), x -> x.worth(), x -> x.duel(), x -> x.most(0), x -> x.mean(0), x -> x.lots(5, 5),
        x -> x.row(0, 1), x -> x.mean(0), x -> x.keep(0), x -> x.on(0), x -> (int) x.digest()};

    static void promise37_whatIsRefusedOrTellsNoneLeavesIt() {
        for (Edges.Call call : TELLING_NO_PARTS) {
            GateNames x = told();
            call.on(x);
            Edges.due("upper()", x.upper(), 5);
        }
    }

    static void promise38_whatIsRefusedOrTellsNoneLeavesIt() {
        for (Edges.Call call : TELLING_NO_PARTS) {
            GateNames x = told();
            call.on(x);
            Edges.due("lower()", x.lower(), 12);
        }
    }

    static void promise37_stateLeavesIt() {
        GateNames x = new GateNames();
        x.odds(3);
        x.mid(3);
        Edges.due("upper()", x.upper(), 0);
    }

    static void promise38_stateLeavesIt() {
        GateNames x = new GateNames();
        x.odds(3);
        x.mid(3);
        Edges.due("lower()", x.lower(), 1);
    }

    static void promise38_noughtIs0By1() {
        GateNames x = told();
        Edges.parts(x, "mid(5), shut", x.mid(5), 0, 1);
        x.odds(5);
        Edges.parts(x, "odds(0), shut", x.odds(0), 0, 1);
    }

    static void promise37_theLatestOfOddsAndMid() {
        GateNames x = Edges.gate("k09k09");
        x.odds(6);
        x.mid(3);
        Edges.due("upper()", x.upper(), 3);
        Edges.due("lower()", x.lower(), 2);
        x.odds(3);
        Edges.due("upper() behind odds()", x.upper(), 1);
        Edges.due("lower() behind odds()", x.lower(), 1);
    }

    // ---- 39 count

    static void promise39_whatIs0To11() {
        Edges.takes(Edges::bare, 0, 11, (x, what) -> x.count(what));
        Edges.takes(Edges::rich, 0, 11, (x, what) -> x.count(what));
    }

    private static void counts(GateNames x, int... due) {
        for (int what = 0; what < due.length; what++) {
            Edges.due("count(" + what + ")", x.count(what), due[what]);
        }
    }

    static void promise39_withoutAnything() {
        counts(new GateNames(), 0, 0, 0, Edges.NONE, 0, 0, 0, 0, 0, 0, 0, 0);
    }

    static void promise39_whereNobodyHas() {
        counts(Edges.gate("k09i09f09g09m09s09i09"), 7, 0, 0, Edges.NONE, 0, 0, 7, 0, 1, 0, 3, 1);
    }

    static void promise39_whereEverybodyHas() {
        counts(Edges.everybody(), 2, 2, 2, 0, 3, 0, 0, 0, 1, 0, 0, 0);
        counts(Edges.gone("k09k09k09k09k09k09k09", 0, 1, 2, 3, 4, 5, 6), 7, 7, 7, 6, 127, 0, 0, 0, 1, 0, 0, 7);
    }

    static void promise39_whereItIsShut() {
        counts(Edges.shut(), 3, 1, 1, 0, 1, 0, 0);
    }

    static void promise39_whereAllPlacesAreTaken() {
        counts(stuffed(), 7, 1, 40, 6, 64, 127, 6, 6, 4, 3, 6, 1);
    }

    static void promise39_singersCountFalseOnesTooKingsKingsAlone() {
        counts(Edges.gate("f09f09f09f09f09f09f09"), 7, 0, 0, Edges.NONE, 0, 0, 7, 0, 1, 0, 7, 0);
        counts(Edges.gate("g09m09s09"), 3, 0, 0, Edges.NONE, 0, 0, 3, 0, 1, 0, 0, 0);
    }

    static void promise39_emptyRowsAndTextsAreThereTornOnesAreNot() {
        GateNames x = new GateNames();
        x.row(0, 0);
        x.row(5, 40);
        x.text(0, 0);
        x.text(3, 60);
        Edges.due("rows", x.count(7), 2);
        Edges.due("texts", x.count(8), 2);
        x.tear(0);
        Edges.due("rows, one torn", x.count(7), 1);
    }

    /** All rows, texts, places, deeds and the stone are full; 6, a king, has gone. */
    private static GateNames stuffed() {
        GateNames x = Edges.gate("i09i00i00f01i02i03k09");
        for (int i = 0; i < 7; i++) {
            x.card(i);
        }
        x.keep(0);
        x.go(6);
        x.keep(1);
        for (int k = 8; k < 40; k++) {
            x.reads(k % 6);
        }
        x.keep(2);
        for (int r = 0; r < 6; r++) {
            x.row(r, 40);
            for (int i = 0; i < 40; i += 13) {
                x.lay(r, i, Edges.LEAST + 1000 * r + i);
            }
        }
        for (int t = 1; t < 4; t++) {
            x.text(t, 60);
            for (int i = 0; i < 60; i += 11) {
                x.put(t, i, 100 * t + 30 * i);
            }
        }
        return x;
    }

    // ---- 40 finding

    static void promise40_beforeAny0() {
        Edges.due("finding()", new GateNames().finding(), 0);
    }

    static void promise40_otherRefusalsAndNoneLeaveIt() {
        GateNames x = new GateNames();
        x.row(6, 0);
        x.keep(0);
        x.undo(1);
        x.worth();
        Edges.due("finding() before any", x.finding(), 0);
        GateNames rich = Edges.full();
        rich.row(0, 41);
        rich.meet(1, 2);
        rich.go(0);
        rich.fault(0);
        Edges.due("finding() of before", rich.finding(), Edges.BEYOND);
    }

    static void promise40_itIsTheLatestOfEach() {
        GateNames x = Edges.rich();
        Edges.Call[] calls = {y -> y.tear(4), y -> y.at(0, 3), y -> y.mark(0, 2), y -> y.mean(3), y -> y.row(0, -1)};
        for (int turn = 0; turn < 2; turn++) {
            for (int f = Edges.NOTHING; f <= Edges.SIZE; f++) {
                Edges.due("the call", calls[f - 1].on(x), Edges.FINDING);
                Edges.due("finding()", x.finding(), f);
            }
        }
    }

    static void promise40_whatIsNotRefusedLeavesIt() {
        GateNames x = Edges.rich();
        x.at(0, 0);
        x.go(1);
        x.gate(0);
        Edges.due("finding()", x.finding(), Edges.BEYOND);
    }

    // ---- 41 findings

    static void promise41_findingsAre1To5() {
        Edges.takes(Edges::bare, 1, 5, (x, f) -> x.findings(f));
        Edges.takes(Edges::rich, 1, 5, (x, f) -> x.findings(f));
    }

    static void promise41_before0() {
        for (int f = 1; f <= 5; f++) {
            Edges.due("findings(" + f + ")", new GateNames().findings(f), 0);
        }
    }

    static void promise41_eachIsCountedByItself() {
        GateNames x = Edges.rich();
        Edges.Call[] calls = {y -> y.tear(4), y -> y.at(0, 3), y -> y.mark(0, 2), y -> y.mean(3), y -> y.row(0, -1)};
        int[] due = {0, 1, 1, 1, 1, 1};
        for (int f = 1; f <= 5; f++) {
            for (int time = 0; time <= f; time++) {
                calls[f - 1].on(x);
                due[f]++;
            }
            for (int other = 1; other <= 5; other++) {
                Edges.due("findings(" + other + ")", x.findings(other), due[other]);
            }
        }
    }

    static void promise41_otherRefusalsAreNotCounted() {
        GateNames x = Edges.full();
        x.row(6, 0);
        x.meet(1, 2);
        x.go(0);
        x.findings(0);
        x.findings(6);
        for (int f = 1; f <= 5; f++) {
            Edges.due("findings(" + f + ")", x.findings(f), 1);
        }
    }

    // ---- 42 digest

    private static long of(long h, int... values) {
        long hash = h;
        for (int v : values) {
            hash = 31 * hash + v;
        }
        return hash;
    }

    static void promise42_withoutAnything() {
        Edges.due("digest()", new GateNames().digest(), of(17,
            0, 0, 0, -9, 0, 0, 0, 0, 0, 0, 0, 0,
            -1, -1, -1, -1, -1, -1, -1, -1, -1, -1, -1, -1, -1));
    }

    static void promise42_emptyRowsTextsAndKeptGatesOfNoDeedsAre0() {
        GateNames x = new GateNames();
        x.row(0, 0);
        x.row(5, 0);
        x.text(3, 0);
        Edges.due("digest()", x.digest(), of(17,
            0, 0, 0, -9, 0, 0, 0, 2, 1, 0, 0, 0,
            -1, -1, -1, 0, -1, -1, -1, -1, 0, -1, -1, -1, 0));
        GateNames kept = Edges.gate("g09m19");
        kept.text(0, 0);
        kept.keep(1);
        Edges.due("digest()", kept.digest(), of(17,
            2, 0, 0, -9, 0, 0, 2, 0, 1, 1, 0, 0,
            0, 0, 0, 1, 1, 0, 1, 3, 1, 0, 0, 2, 0, 1,
            -1, 0, -1, -1, -1, -1, -1, -1, -1, 0, -1, -1, -1));
    }

    static void promise42_whereAllPlacesAreTaken() {
        GateNames x = stuffed();
        long h = 17;
        for (int what = 0; what < 12; what++) {
            h = of(h, x.count(what));
        }
        for (int i = 0; i < 7; i++) {
            for (int what = 0; what < 7; what++) {
                x.goer(i, what);
                h = of(h, x.asked());
            }
        }
        h = of(h, 7, 8, 40);
        for (int r = 0; r < 6; r++) {
            h = of(h, 40);
            for (int i = 0; i < 40; i++) {
                h = of(h, i % 13 == 0 ? Edges.LEAST + 1000 * r + i : 0);
            }
        }
        String gate = "i09i00i00f01i02i03k09";
        h = of(h, 21);
        for (int i = 0; i < 21; i++) {
            h = of(h, gate.charAt(i));
        }
        for (int t = 1; t < 4; t++) {
            h = of(h, 60);
            for (int i = 0; i < 60; i++) {
                h = of(h, i % 11 == 0 ? (byte) (100 * t + 30 * i) : 32);
            }
        }
        Edges.due("digest()", x.digest(), h);
    }

    static void promise42_whatWasToldAndFoundIsNotInIt() {
        GateNames x = Edges.rich();
        long before = x.digest();
        x.at(0, 2);
        x.odds(3);
        x.tear(4);
        x.digest();
        Edges.due("digest()", x.digest(), before);
    }
}
