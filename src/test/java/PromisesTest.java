/** Each promise of the document by small cases worked out by hand; the first number is the promise's. */
public final class PromisesTest {
    private static final int BAD = -1, FULL = -2, FINDING = -3, STATE = -4, NONE = -9;
    private static final int NOTHING = 1, BEYOND = 2, UNLIKE = 3, NOUGHT = 4, SIZE = 5;
    private static int checks = 0;
    private static int wrong = 0;

    private static void due(int promise, String what, long got, long want) {
        checks++;
        if (got != want) {
            wrong++;
            System.out.println("promise " + promise + ": " + what + " answered " + got + ", due is " + want);
        }
    }

    private static void found(int promise, GateNames x, String what, int got, int finding) {
        due(promise, what, got, FINDING);
        due(40, "finding() after " + what, x.finding(), finding);
    }

    private static void asks(int promise, GateNames x, String what, int got, int want, int asked) {
        due(promise, what, got, want);
        due(promise, "asked() after " + what, x.asked(), asked);
    }

    private static void parts(int promise, GateNames x, String what, int got, long upper, long lower) {
        due(promise, what, got, 1);
        due(37, "upper() after " + what, x.upper(), upper);
        due(38, "lower() after " + what, x.lower(), lower);
    }

    private static void write(GateNames x, int t, String text) {
        x.text(t, text.length());
        for (int i = 0; i < text.length(); i++) {
            x.put(t, i, text.charAt(i));
        }
    }

    private static GateNames gate(String text) {
        GateNames x = new GateNames();
        write(x, 0, text);
        due(11, "gate(\"" + text + "\")", x.gate(0), text.replace(" ", "").length() / 3);
        return x;
    }

    private static void fill(GateNames x, int r, int... values) {
        x.row(r, values.length);
        for (int i = 0; i < values.length; i++) {
            x.lay(r, i, values[i]);
        }
    }

    public static void main(String[] args) {
        newObject();
        rowsAndPlaces();
        copies();
        means();
        textsAndBytes();
        faults();
        gates();
        goers();
        marks();
        tellings();
        meets();
        stones();
        goings();
        fullOfDeeds();
        undoing();
        keeping();
        opening();
        longestRows();
        worths();
        orders();
        meetings();
        whoseCard();
        whomToHold();
        lastOnes();
        kindsByPairs();
        questions();
        duels();
        chances();
        lots();
        asked();
        counts();
        findings();
        digests();
        System.out.println(checks + " checks, " + wrong + " wrong");
        System.exit(wrong == 0 ? 0 : 1);
    }

    private static void newObject() {
        GateNames x = new GateNames();
        for (int what = 0; what < 12; what++) {
            due(1, "count(" + what + ")", x.count(what), what == 3 ? NONE : 0);
        }
        for (int r = 0; r < 6; r++) {
            found(1, x, "at() of no row", x.at(r, 0), NOTHING);
        }
        for (int t = 0; t < 4; t++) {
            found(1, x, "put() in no text", x.put(t, 0, 32), NOTHING);
        }
        due(1, "goer() of none", x.goer(0, 0), BAD);
    }

    private static void rowsAndPlaces() {
        GateNames x = new GateNames();
        due(2, "row(5, 40)", x.row(5, 40), 40);
        due(2, "row(0, 0)", x.row(0, 0), 0);
        due(2, "row(0, 41)", x.row(0, 41), BAD);
        due(2, "row(6, 1)", x.row(6, 1), BAD);
        due(2, "row(-1, 1)", x.row(-1, 1), BAD);
        due(2, "row(6, -1): BAD ahead of SIZE", x.row(6, -1), BAD);
        found(2, x, "row(0, -1)", x.row(0, -1), SIZE);
        found(2, x, "row(0, least)", x.row(0, Integer.MIN_VALUE), SIZE);
        due(2, "a row refused is as it was", x.row(0, 3), 3);
        asks(3, x, "lay(5, 39, 7)", x.lay(5, 39, 7), 1, 0);
        asks(3, x, "lay(5, 39, -8)", x.lay(5, 39, -8), 1, 7);
        asks(4, x, "at(5, 39)", x.at(5, 39), 1, -8);
        found(3, x, "lay(5, 40, 1)", x.lay(5, 40, 1), BEYOND);
        found(3, x, "lay(5, -1, 1)", x.lay(5, -1, 1), BEYOND);
        found(3, x, "lay(1, 0, 1)", x.lay(1, 0, 1), NOTHING);
        due(3, "lay(6, 0, 1)", x.lay(6, 0, 1), BAD);
        found(4, x, "at(0, 3)", x.at(0, 3), BEYOND);
        found(4, x, "at(2, 0)", x.at(2, 0), NOTHING);
        due(4, "at(-1, 0)", x.at(-1, 0), BAD);
        due(2, "row(5, 40) anew", x.row(5, 40), 40);
        asks(2, x, "at(5, 39) anew", x.at(5, 39), 1, 0);
        due(5, "tear(5)", x.tear(5), 1);
        found(5, x, "tear(5) again", x.tear(5), NOTHING);
        found(5, x, "at(5, 0) torn", x.at(5, 0), NOTHING);
        due(5, "tear(6)", x.tear(6), BAD);
        due(5, "tear(-1)", x.tear(-1), BAD);
    }

    private static void copies() {
        GateNames x = new GateNames();
        fill(x, 0, 1, 2, 3, 4, 5);
        fill(x, 1, 9, 9);
        due(6, "copy(0, 0, 0, 1, 4)", x.copy(0, 0, 0, 1, 4), 1);
        int[] shifted = {1, 1, 2, 3, 4};
        for (int i = 0; i < 5; i++) {
            x.at(0, i);
            due(6, "place " + i + " as if taken ahead", x.asked(), shifted[i]);
        }
        due(6, "copy(0, 3, 1, 0, 2)", x.copy(0, 3, 1, 0, 2), 1);
        asks(6, x, "at(1, 1)", x.at(1, 1), 1, 4);
        due(6, "copy of none at the end", x.copy(0, 5, 1, 2, 0), 1);
        found(6, x, "copy(0, 4, 1, 0, 2)", x.copy(0, 4, 1, 0, 2), BEYOND);
        found(6, x, "copy(0, 0, 1, 1, 2)", x.copy(0, 0, 1, 1, 2), BEYOND);
        found(6, x, "copy(0, -1, 1, 0, 1)", x.copy(0, -1, 1, 0, 1), BEYOND);
        found(6, x, "copy(0, 0, 1, -1, 1)", x.copy(0, 0, 1, -1, 1), BEYOND);
        found(6, x, "copy of too great numbers", x.copy(0, Integer.MAX_VALUE, 1, 0, 2), BEYOND);
        found(6, x, "copy of too many", x.copy(0, 1, 1, 1, Integer.MAX_VALUE), BEYOND);
        found(6, x, "copy from none", x.copy(5, 0, 1, 0, 0), NOTHING);
        found(6, x, "copy to none", x.copy(0, 0, 5, 0, 0), NOTHING);
        found(6, x, "SIZE ahead of NOTHING", x.copy(5, 0, 1, 0, -1), SIZE);
        found(6, x, "NOTHING ahead of BEYOND", x.copy(0, 99, 5, 0, 1), NOTHING);
        due(6, "BAD ahead of SIZE", x.copy(0, 0, 6, 0, -1), BAD);
        due(6, "copy(-1, ..)", x.copy(-1, 0, 0, 0, 0), BAD);
    }

    private static void means() {
        GateNames x = new GateNames();
        fill(x, 0, 3, 4);
        asks(7, x, "mean of 3, 4", x.mean(0), 1, 3);
        fill(x, 0, -3, -4);
        asks(7, x, "mean of -3, -4, cut", x.mean(0), 1, -3);
        fill(x, 0, Integer.MAX_VALUE, Integer.MAX_VALUE, Integer.MAX_VALUE);
        asks(7, x, "mean of greatest ones", x.mean(0), 1, Integer.MAX_VALUE);
        fill(x, 0, new int[40]);
        x.lay(0, 39, 80);
        asks(7, x, "mean of forty", x.mean(0), 1, 2);
        fill(x, 0, 8);
        asks(7, x, "mean of one", x.mean(0), 1, 8);
        x.row(0, 0);
        found(7, x, "mean of none", x.mean(0), NOUGHT);
        found(7, x, "mean of no row", x.mean(1), NOTHING);
        due(7, "mean(6)", x.mean(6), BAD);
        due(7, "mean(-1)", x.mean(-1), BAD);
        due(36, "asked() as it was", x.asked(), 8);
    }

    private static void textsAndBytes() {
        GateNames x = new GateNames();
        due(8, "text(3, 60)", x.text(3, 60), 60);
        due(8, "text(0, 61)", x.text(0, 61), BAD);
        due(8, "text(4, 1)", x.text(4, 1), BAD);
        due(8, "text(-1, -1)", x.text(-1, -1), BAD);
        found(8, x, "text(0, -1)", x.text(0, -1), SIZE);
        due(9, "put(3, 59, 300)", x.put(3, 59, 300), 1032);
        due(9, "put(3, 59, 255)", x.put(3, 59, 255), 1044);
        due(9, "put(3, 59, 128)", x.put(3, 59, 128), 999);
        due(9, "put(3, 59, 0)", x.put(3, 59, 0), 872);
        due(8, "text(3, 60) anew", x.text(3, 60), 60);
        due(8, "its blank", x.put(3, 59, 1), 1032);
        found(9, x, "put(3, 60, 1)", x.put(3, 60, 1), BEYOND);
        found(9, x, "put(3, -1, 1)", x.put(3, -1, 1), BEYOND);
        found(9, x, "put(0, 0, 1)", x.put(0, 0, 1), NOTHING);
        due(9, "put(4, 0, 1)", x.put(4, 0, 1), BAD);
        due(9, "put(-1, 0, 1)", x.put(-1, 0, 1), BAD);
    }

    private static void fault(String text, int want) {
        GateNames x = new GateNames();
        write(x, 2, text);
        due(10, "fault(\"" + text + "\")", x.fault(2), want);
        if (want != NONE) {
            due(11, "gate(\"" + text + "\")", x.gate(2), STATE);
            due(11, "goers by it", x.count(0), 0);
        }
    }

    private static void faults() {
        fault("", 0);
        fault("   ", 3);
        fault("g00", 3);
        fault(" g00  ", 6);
        fault("g00k1", 5);
        fault("g00k", 4);
        fault("g0 0k00", 2);
        fault("g 00k00", 1);
        fault("g00x00", 3);
        fault("G00k00", 0);
        fault("g:0k00", 1);
        fault("g0/k00", 2);
        fault("g00k00!", 6);
        fault("g00k00s00m00i00f00g00", NONE);
        fault("g00k00s00m00i00f00g00  ", NONE);
        fault("g00k00s00m00i00f00g00 g00", 22);
        fault("g00k00s00m00i00f00g00?", 21);
        fault("  g99   k99  ", NONE);
        String blanks = " ".repeat(54);
        fault(blanks + "g00k00", NONE);
        fault(blanks + " g00k0", 60);
        fault(blanks + "  g00k", 60);
        fault("g00k00" + blanks, NONE);
        GateNames x = new GateNames();
        found(10, x, "fault of no text", x.fault(0), NOTHING);
        due(10, "fault(4)", x.fault(4), BAD);
        due(10, "fault(-1)", x.fault(-1), BAD);
        write(x, 0, "g00k00");
        x.put(0, 3, 256 + 107);
        due(10, "a letter cut to a byte", x.fault(0), NONE);
        x.put(0, 3, 107 - 128);
        due(10, "a byte below 0", x.fault(0), 3);
    }

    private static void gates() {
        GateNames x = gate("g31 k52");
        x.meet(0, 1);
        x.go(0);
        x.keep(0);
        due(11, "gate(0) anew", x.gate(0), 2);
        due(11, "deeds anew", x.count(2), 0);
        due(11, "through anew", x.count(1), 0);
        due(11, "kept gates go", x.count(9), 0);
        asks(11, x, "told as at first", x.goer(1, 2), 1, 0);
        write(x, 1, "g3");
        due(11, "gate of a fault", x.gate(1), STATE);
        due(11, "the gate is as it was", x.count(0), 2);
        found(11, x, "gate of no text", x.gate(2), NOTHING);
        due(11, "gate(4)", x.gate(4), BAD);
        due(11, "gate(-1)", x.gate(-1), BAD);
        write(x, 3, "s19s29s39");
        x.gate(3);
        due(11, "no kings of the gate before", x.count(11), 0);
        x.gate(0);
        asks(11, x, "no Smiths of the gate before", x.goer(0, 4), 1, 3);
        x.put(0, 0, 's');
        asks(11, x, "a text changed later", x.goer(0, 0), 1, 0);
    }

    private static void goers() {
        GateNames x = gate("k11g20s39s42m53");
        int[][] due = {
            {1, 1, 2, 1, 3, 0, 1}, {0, 2, 1, 2, 3, 0, 1}, {2, 3, 0, 4, 13, 0, 1},
            {2, 4, 4, 8, 13, 0, 1}, {3, 5, 8, 0, 29, 0, 1}};
        for (int i = 0; i < 5; i++) {
            for (int what = 0; what < 7; what++) {
                asks(12, x, "goer(" + i + ", " + what + ")", x.goer(i, what), 1, due[i][what]);
            }
        }
        x.go(2);
        asks(12, x, "goer(2, 5) gone", x.goer(2, 5), 1, 1);
        asks(12, x, "goer(2, 6) gone", x.goer(2, 6), 1, 0);
        asks(12, x, "goer(4, 6), told of a Smith", x.goer(4, 6), 1, 1);
        asks(12, x, "goer(0, 6), who can not name it", x.goer(0, 6), 1, 0);
        due(12, "goer(5, 0)", x.goer(5, 0), BAD);
        due(12, "goer(-1, 0)", x.goer(-1, 0), BAD);
        due(12, "goer(0, 7)", x.goer(0, 7), BAD);
        due(12, "goer(0, -1)", x.goer(0, -1), BAD);
    }

    private static void marks() {
        GateNames x = gate("k11g20s39s42m53i62f71");
        due(13, "a king, not named by 5 others", x.mark(0, 1), 5);
        due(13, "a Smith, named by the mute and not told", x.mark(2, 2), 1);
        due(13, "a Smith, named by the other Smith and the singer", x.mark(3, 2), 2);
        due(13, "a mute", x.mark(4, 3), 0);
        due(13, "a singer of itself and one more", x.mark(5, 4), 2);
        due(13, "a false one as a singer", x.mark(6, 4), 1);
        due(13, "a false one", x.mark(6, 5), 1);
        found(13, x, "a singer is no false one", x.mark(5, 5), UNLIKE);
        found(13, x, "a goer is no king", x.mark(1, 1), UNLIKE);
        found(13, x, "a king is no singer", x.mark(0, 4), UNLIKE);
        found(13, x, "a false one is no mute", x.mark(6, 3), UNLIKE);
        found(13, x, "a king is no Smith", x.mark(0, 2), UNLIKE);
        x.meet(1, 4);
        due(13, "a mute told nobody of itself", x.mark(4, 3), 0);
        x.go(1);
        due(13, "of one gone a false one tells as a singer", x.mark(6, 4), 1);
        due(13, "a false one tells of one gone", x.mark(6, 5), 0);
        due(13, "kind 0", x.mark(0, 0), BAD);
        due(13, "kind 6", x.mark(0, 6), BAD);
        due(13, "goer 7", x.mark(7, 1), BAD);
        due(13, "goer -1", x.mark(-1, 1), BAD);
        GateNames named = gate("m00m10");
        due(13, "a mute named by another", named.mark(0, 3), 1);
        asks(12, named, "told of nobody by its own number", named.goer(0, 2), 1, 0);
        due(13, "a king of whom the other one was told", gate("g11k20").mark(1, 1), 0);
    }

    private static void tellings() {
        GateNames x = gate("k00g00s00m00i00f00");
        int[] due = {1, 2, 4, 0, 63, 31};
        int[] dueOfNone = {1, 2, 4, 0, 16, 0};
        for (int i = 0; i < 6; i++) {
            due(14, "tells(" + i + ", 63)", x.tells(i, 63), due[i]);
            due(14, "tells(" + i + ", 0)", x.tells(i, 0), dueOfNone[i]);
        }
        due(14, "tells(5, 32): itself not counted", x.tells(5, 32), 0);
        due(14, "tells(0, 64)", x.tells(0, 64), BAD);
        due(14, "tells(0, -1)", x.tells(0, -1), BAD);
        due(14, "tells(6, 0)", x.tells(6, 0), BAD);
        due(14, "tells(-1, 0)", x.tells(-1, 0), BAD);
    }

    private static void meets() {
        GateNames x = gate("i11i22g30m49f53");
        due(15, "two singers", x.meet(0, 1), 2);
        asks(15, x, "goer(0, 2)", x.goer(0, 2), 1, 6);
        asks(15, x, "goer(1, 2)", x.goer(1, 2), 1, 5);
        due(15, "a goer and a mute", x.meet(2, 3), 1);
        asks(15, x, "goer(2, 2)", x.goer(2, 2), 1, 1);
        due(15, "a false one and a mute", x.meet(3, 4), 0);
        due(15, "a singer and a false one", x.meet(4, 0), 4);
        asks(15, x, "the false one was told of", x.goer(4, 2), 1, 15);
        asks(15, x, "the singer was told of", x.goer(0, 2), 1, 14);
        due(15, "again", x.meet(4, 0), 0);
        due(15, "with itself", x.meet(1, 1), BAD);
        due(15, "meet(0, 5)", x.meet(0, 5), BAD);
        due(15, "meet(-1, 0)", x.meet(-1, 0), BAD);
        x.go(2);
        due(15, "one gone", x.meet(2, 0), STATE);
        due(15, "the other one gone", x.meet(0, 2), STATE);
        due(15, "with itself, gone", x.meet(2, 2), BAD);
        due(15, "deeds", x.count(2), 6);
    }

    private static void stones() {
        GateNames x = gate("i11g22m39f43");
        due(17, "an empty stone", x.reads(0), 0);
        due(16, "a singer's card", x.card(0), 3);
        due(16, "a mute's card", x.card(2), 3);
        due(16, "a goer's card", x.card(1), 3);
        due(16, "a false one's card", x.card(3), 3);
        due(17, "a mute reads", x.reads(2), 2);
        due(17, "one that is on it reads", x.reads(1), 1);
        asks(17, x, "goer(1, 2): not of itself", x.goer(1, 2), 1, 5);
        due(16, "a card again, now of what it read", x.card(3), 3);
        due(17, "the false one reads", x.reads(3), 2);
        due(17, "and again", x.reads(3), 0);
        due(39, "the stone", x.count(5), 3);
        due(16, "card(4)", x.card(4), BAD);
        due(16, "card(-1)", x.card(-1), BAD);
        due(17, "reads(4)", x.reads(4), BAD);
        due(17, "reads(-1)", x.reads(-1), BAD);
        x.go(1);
        due(16, "a card of one gone", x.card(1), STATE);
        due(17, "one gone reads", x.reads(1), STATE);
    }

    private static void goings() {
        GateNames x = gate("g11g22g39k49");
        due(18, "go(2)", x.go(2), 1);
        due(18, "go(2) again", x.go(2), STATE);
        due(18, "go(0), who can not name it", x.go(0), STATE);
        due(18, "go(1), who was told of it", x.go(1), 2);
        due(18, "go(0), who was told of it", x.go(0), 3);
        due(18, "go(3), shut", x.go(3), STATE);
        due(18, "go(4)", x.go(4), BAD);
        due(18, "go(-1)", x.go(-1), BAD);
        due(39, "who went last", x.count(3), 0);
        GateNames kings = gate("k19g29");
        kings.go(0);
        due(18, "everyone can name a king", kings.go(1), 2);
    }

    private static void fullOfDeeds() {
        GateNames x = gate("g19g29g39");
        for (int k = 0; k < 39; k++) {
            due(16, "card " + k, x.card(0), 1);
        }
        due(15, "meet, the 40th deed", x.meet(0, 1), 2);
        x.undo(39);
        due(17, "reads, the 40th deed", x.reads(1), 1);
        x.undo(39);
        due(18, "go, the 40th deed", x.go(1), 1);
        x.undo(39);
        due(16, "card, the 40th deed", x.card(0), 1);
        due(15, "meet, full", x.meet(0, 1), FULL);
        due(16, "card, full", x.card(0), FULL);
        due(17, "reads, full", x.reads(1), FULL);
        due(18, "go, full", x.go(0), FULL);
        due(35, "lots, full", x.lots(1, 1), FULL);
        due(39, "deeds", x.count(2), 40);
        due(26, "meetings aside, though full", x.meetings(), 2);
        x.undo(39);
        x.go(2);
        due(15, "STATE ahead of FULL: meet", x.meet(0, 2), STATE);
        due(16, "STATE ahead of FULL: card", x.card(2), STATE);
        due(17, "STATE ahead of FULL: reads", x.reads(2), STATE);
        due(18, "STATE ahead of FULL: go", x.go(0), STATE);
        due(18, "BAD ahead of FULL: go", x.go(3), BAD);
        x.undo(21);
        due(35, "twenty lots would be 41 deeds", x.lots(20, 1), FULL);
        due(35, "nineteen are 40", x.lots(19, 1) >= 0 ? 1 : 0, 1);
        due(39, "deeds", x.count(2), 40);
    }

    private static void undoing() {
        GateNames x = gate("g19g29m31");
        x.meet(0, 1);
        x.card(0);
        x.reads(2);
        x.go(1);
        due(19, "undo(5)", x.undo(5), BAD);
        due(19, "undo(-1)", x.undo(-1), BAD);
        due(19, "undo(4)", x.undo(4), 0);
        due(19, "undo(3)", x.undo(3), 1);
        due(19, "nobody last", x.count(3), NONE);
        asks(19, x, "2 has read", x.goer(2, 2), 1, 3);
        due(19, "undo(1)", x.undo(1), 2);
        due(19, "an empty stone", x.count(5), 0);
        asks(19, x, "2 as at first", x.goer(2, 2), 1, 2);
        asks(19, x, "0 has met", x.goer(0, 2), 1, 2);
        due(19, "undo(0)", x.undo(0), 1);
        asks(19, x, "0 as at first", x.goer(0, 2), 1, 0);
        due(19, "undo(0) of none", new GateNames().undo(0), 0);
        due(19, "undo(1) of none", new GateNames().undo(1), BAD);
    }

    private static void keeping() {
        GateNames x = gate("g19g29");
        due(20, "keep(0)", x.keep(0), 0);
        x.meet(0, 1);
        x.go(1);
        due(20, "keep(2)", x.keep(2), 2);
        due(20, "keep(3)", x.keep(3), BAD);
        due(20, "keep(-1)", x.keep(-1), BAD);
        due(39, "kept gates", x.count(9), 2);
        due(21, "on(0)", x.on(0), 0);
        due(21, "nobody through", x.count(1), 0);
        x.go(0);
        due(21, "on(2)", x.on(2), 2);
        due(21, "1 through", x.count(4), 2);
        asks(21, x, "0 has met", x.goer(0, 2), 1, 2);
        due(21, "undo(1) behind on()", x.undo(1), 1);
        due(21, "on(2) again", x.on(2), 2);
        due(20, "keep(2) anew", x.keep(2), 2);
        found(21, x, "on(1)", x.on(1), NOTHING);
        due(21, "on(3)", x.on(3), BAD);
        due(21, "on(-1)", x.on(-1), BAD);
        due(20, "keep() of no goers", new GateNames().keep(0), STATE);
        due(20, "keep(3) of no goers", new GateNames().keep(3), BAD);
    }

    private static void opening() {
        asks(22, new GateNames(), "open() of none", new GateNames().open(), 0, 0);
        GateNames x = gate("g11g20s30s49");
        asks(22, x, "open() at first", x.open(), 15, 4);
        x.go(0);
        asks(22, x, "open() behind 0", x.open(), 6, 3);
        x.go(2);
        asks(22, x, "open() behind a Smith", x.open(), 8, 2);
    }

    private static void rowIs(int promise, GateNames x, int r, int... want) {
        for (int i = 0; i < want.length; i++) {
            due(promise, "at(" + r + ", " + i + ")", x.at(r, i), 1);
            due(promise, "place " + i, x.asked(), want[i]);
        }
        found(promise, x, "the row's end", x.at(r, want.length), BEYOND);
    }

    private static void longestRows() {
        GateNames x = gate("g11g22g39");
        x.row(4, 40);
        due(23, "most(4)", x.most(4), 3);
        rowIs(23, x, 4, 2, 1, 0);
        due(39, "nobody went", x.count(1), 0);
        x.go(1);
        due(23, "most(4) behind 1", x.most(4), 1);
        rowIs(23, x, 4, 0);
        x.go(0);
        due(23, "most(0) behind 0", x.most(0), 0);
        rowIs(23, x, 0);
        GateNames kings = gate("k19k29k39");
        kings.most(0);
        rowIs(23, kings, 0, 0, 1, 2);
        GateNames alone = gate("g11g29g30");
        due(23, "the first of rows of two", alone.most(0), 3);
        rowIs(23, alone, 0, 1, 0, 2);
        GateNames strangers = gate("g19g29g39");
        due(23, "strangers", strangers.most(0), 1);
        rowIs(23, strangers, 0, 0);
        GateNames pair = gate("g19g29g31");
        due(23, "two of three", pair.most(0), 2);
        rowIs(23, pair, 0, 1, 2);
        pair.meet(0, 2);
        due(23, "1, then who was told of it", pair.most(0), 3);
        rowIs(23, pair, 0, 1, 2, 0);
        due(23, "most(6)", x.most(6), BAD);
        due(23, "most(-1)", x.most(-1), BAD);
        GateNames none = new GateNames();
        due(23, "most(0) of none", none.most(0), STATE);
        due(23, "most(6) of none", none.most(6), BAD);
        due(23, "no row by what is refused", none.count(7), 0);
    }

    private static void worths() {
        GateNames x = gate("g19g29g99");
        asks(24, x, "the dearest alone", x.worth(), 9, 1);
        GateNames equal = gate("g51g00");
        asks(24, equal, "the shortest of equal worth", equal.worth(), 5, 1);
        GateNames later = gate("g29g30g59");
        asks(24, later, "one instead of two", later.worth(), 5, 1);
        GateNames nothing = gate("g01g00");
        asks(24, nothing, "worth nothing: nobody goes", nothing.worth(), 0, 0);
        GateNames row = gate("g11g22g39");
        asks(24, row, "all of them", row.worth(), 6, 3);
        row.go(1);
        asks(24, row, "those that have not gone alone", row.worth(), 1, 1);
        due(24, "worth() of none", new GateNames().worth(), STATE);
    }

    private static void orders() {
        GateNames x = gate("k19k29k39k49k59k69k79");
        due(25, "seven kings", x.orders(), 5040);
        x.go(3);
        due(25, "six of them", x.orders(), 720);
        GateNames two = gate("g11g29");
        due(25, "one behind the other", two.orders(), 1);
        two.go(0);
        due(25, "shut", two.orders(), 0);
        two.undo(0);
        two.go(1);
        two.go(0);
        due(25, "all have", two.orders(), 1);
        due(25, "orders() of none", new GateNames().orders(), STATE);
    }

    private static void meetings() {
        GateNames x = gate("g19g29g39");
        asks(26, x, "three strangers", x.meetings(), 2, 102);
        due(26, "none of it done", x.count(2), 0);
        x.meet(1, 2);
        asks(26, x, "two have met", x.meetings(), 1, 1);
        x.meet(0, 1);
        asks(26, x, "all can", x.meetings(), 0, 0);
        GateNames later = gate("g19g20g39g49");
        later.go(0);
        asks(26, later, "1 with 2, 2 with 3", later.meetings(), 2, 1223);
        later.meet(2, 1);
        asks(26, later, "2 with 3", later.meetings(), 1, 23);
        GateNames four = gate("g19g29g39g49");
        four.open();
        asks(26, four, "four strangers: by no two", four.meetings(), NONE, 4);
        GateNames gone = gate("g19g29g31");
        gone.go(0);
        due(26, "one gone can not be met", gone.meetings(), NONE);
        GateNames all = gate("g11g29");
        all.go(1);
        all.go(0);
        asks(26, all, "all have", all.meetings(), 0, 0);
        due(26, "meetings() of none", new GateNames().meetings(), STATE);
    }

    private static void whoseCard() {
        GateNames x = gate("m19g29g39");
        asks(27, x, "a goer's card, not the mute's", x.stone(), 1, 2);
        due(27, "none left in truth", x.count(5), 0);
        x.card(1);
        asks(27, x, "with what is on the stone", x.stone(), 2, 3);
        x.reads(0);
        x.go(1);
        asks(27, x, "2 can not name 1 by its own card", x.stone(), 0, 1);
        x.go(0);
        asks(27, x, "shut, whoever does", x.stone(), 2, 0);
        GateNames gone = gate("g11g29");
        gone.go(1);
        asks(27, gone, "of those that have not gone", gone.stone(), 0, 1);
        gone.go(0);
        asks(27, gone, "all have", gone.stone(), NONE, 1);
        due(27, "stone() of none", new GateNames().stone(), STATE);
    }

    private static void whomToHold() {
        GateNames x = gate("g11g22g39");
        asks(28, x, "the one between", x.hold(), 1, 1);
        x.go(2);
        asks(28, x, "the next one", x.hold(), 1, 0);
        x.go(1);
        asks(28, x, "the only one", x.hold(), 0, 0);
        x.open();
        x.go(0);
        asks(28, x, "all have", x.hold(), NONE, 2);
        due(28, "hold() of none", new GateNames().hold(), STATE);
        GateNames alike = gate("k19k29");
        asks(28, alike, "the first of them", alike.hold(), 0, 1);
    }

    private static void lastOnes() {
        GateNames x = gate("g11g22g39g42");
        due(29, "whom nobody else can name", x.last(0), 9);
        due(29, "whom 0 can", x.last(1), 2);
        due(29, "whom 1, 3 can", x.last(10), 4);
        due(29, "whom all can", x.last(15), 0);
        x.go(3);
        due(29, "whom 1 alone of those left can", x.last(2), 4);
        due(29, "whom none of those left can", x.last(0), 9);
        due(29, "a set of one that has gone", x.last(8), 0);
        due(29, "last(16)", x.last(16), BAD);
        due(29, "last(-1)", x.last(-1), BAD);
        due(29, "last(0) of none", new GateNames().last(0), STATE);
        due(29, "last(1) of none", new GateNames().last(1), BAD);
    }

    private static void kindsByPairs() {
        GateNames x = gate("g19g29g39");
        x.row(0, 0);
        due(30, "by nothing", x.kinds(0, 0), 63);
        fill(x, 0, 0, 1);
        due(30, "it tells of itself", x.kinds(0, 0), 23);
        fill(x, 0, 2, 1);
        due(30, "of itself alone", x.kinds(0, 0), 7);
        fill(x, 0, 2, 3, 0, 1);
        due(30, "a singer", x.kinds(0, 0), 16);
        fill(x, 0, 3, 2);
        due(30, "a false one, told of itself", x.kinds(0, 0), 32);
        fill(x, 0, 6, 0);
        due(30, "a mute", x.kinds(0, 0), 8);
        fill(x, 0, 6, 0, 6, 6);
        due(30, "of no kind", x.kinds(0, 0), 0);
        fill(x, 0, new int[40]);
        due(30, "twenty pairs", x.kinds(0, 0), 40);
        x.lay(0, 39, 1);
        due(30, "the last one unlike", x.kinds(0, 0), 0);
        x.lay(0, 39, 8);
        found(30, x, "the last number is none", x.kinds(0, 0), UNLIKE);
        fill(x, 0, 8, 0, 1);
        found(30, x, "SIZE ahead of UNLIKE", x.kinds(0, 0), SIZE);
        fill(x, 0, 8, 0);
        found(30, x, "a set that is none", x.kinds(0, 0), UNLIKE);
        fill(x, 0, 0, -1);
        found(30, x, "another one", x.kinds(0, 0), UNLIKE);
        found(30, x, "no row", x.kinds(0, 1), NOTHING);
        due(30, "kinds(3, 1): BAD ahead of NOTHING", x.kinds(3, 1), BAD);
        due(30, "kinds(-1, 0)", x.kinds(-1, 0), BAD);
        due(30, "kinds(0, 6)", x.kinds(0, 6), BAD);
        due(30, "kinds(0, -1)", x.kinds(0, -1), BAD);
    }

    private static void questions() {
        GateNames x = gate("g19g29g39");
        x.row(0, 0);
        asks(31, x, "all kinds", x.test(0, 0), 2, 3);
        asks(31, x, "of the second goer", x.test(1, 0), 1, 3);
        fill(x, 0, 0, 0);
        asks(31, x, "a mute or a false one", x.test(1, 0), 1, 1);
        fill(x, 0, 2, 1);
        asks(31, x, "three that tell alike always", x.test(0, 0), 0, 3);
        fill(x, 0, 6, 0, 6, 6);
        asks(31, x, "no kind", x.test(0, 0), NONE, 0);
        fill(x, 0, 0);
        found(31, x, "not by pairs", x.test(0, 0), SIZE);
        fill(x, 0, 0, 8);
        found(31, x, "a set that is none", x.test(0, 0), UNLIKE);
        found(31, x, "no row", x.test(0, 5), NOTHING);
        due(31, "test(3, 5)", x.test(3, 5), BAD);
        due(31, "test(0, 6)", x.test(0, 6), BAD);
    }

    private static void duels() {
        GateNames x = gate("k19k29");
        asks(32, x, "two kings", x.duel(), 0, NONE);
        x.go(1);
        asks(32, x, "one king", x.duel(), 1, 0);
        GateNames chain = gate("g11g22g39");
        asks(32, chain, "whom nobody can name", chain.duel(), 1, 0);
        chain.go(2);
        asks(32, chain, "2, then 1, then 0", chain.duel(), 0, NONE);
        GateNames four = gate("k19k29k39k49");
        asks(32, four, "four kings", four.duel(), 0, NONE);
        GateNames five = gate("k19k29k39k49k59");
        asks(32, five, "five kings", five.duel(), 1, 0);
        due(32, "duel() of none", new GateNames().duel(), STATE);
    }

    private static void chances() {
        GateNames x = gate("g19g29");
        parts(33, x, "odds(6)", x.odds(6), 3, 4);
        parts(33, x, "odds(0)", x.odds(0), 0, 1);
        parts(33, x, "odds(12)", x.odds(12), 1, 1);
        parts(33, x, "odds(4)", x.odds(4), 5, 9);
        parts(34, x, "mid(6)", x.mid(6), 3, 4);
        parts(34, x, "mid(0)", x.mid(0), 1, 1);
        parts(34, x, "mid(12)", x.mid(12), 0, 1);
        parts(34, x, "mid(4)", x.mid(4), 8, 9);
        x.go(0);
        parts(33, x, "odds(6), shut", x.odds(6), 1, 2);
        parts(34, x, "mid(6), shut", x.mid(6), 0, 1);
        parts(33, x, "odds(1), shut", x.odds(1), 1, 12);
        GateNames told = gate("g11g29");
        parts(34, told, "mid(6) of two that come in a row", told.mid(6), 1, 1);
        parts(33, told, "odds(6) of them", told.odds(6), 1, 1);
        due(33, "odds(13)", x.odds(13), BAD);
        due(33, "odds(-1)", x.odds(-1), BAD);
        due(34, "mid(13)", x.mid(13), BAD);
        due(34, "mid(-1)", x.mid(-1), BAD);
        due(37, "upper() as it was", x.upper(), 1);
        due(38, "lower() as it was", x.lower(), 12);
        GateNames none = new GateNames();
        due(37, "upper() at first", none.upper(), 0);
        due(38, "lower() at first", none.lower(), 1);
        due(33, "odds(0) of none", none.odds(0), STATE);
        due(33, "odds(13) of none", none.odds(13), BAD);
        due(34, "mid(0) of none", none.mid(0), STATE);
    }

    private static void lots() {
        // 48271 = 4 * 12067 + 3, 48271 / 8 = 6033: the second of two goes through;
        // 48271 * 48271 mod 2147483647 = 182605794 = .. 2, / 8 = 22825724: the first reads
        GateNames x = gate("g19g29");
        due(35, "lots(1, 1)", x.lots(1, 1), 1);
        due(35, "who went", x.count(3), 1);
        due(35, "lots(1, 48271): a goer reads", x.lots(1, 48271), 1);
        due(35, "lots(1, 1) again: a deed of nothing", x.lots(1, 1), 1);
        due(39, "deeds", x.count(2), 3);
        due(35, "undone as other deeds", x.undo(0), 3);
        due(35, "lots(2, 1)", x.lots(2, 1), 1);
        due(39, "deeds", x.count(2), 2);
        // 4 * 48271 = 193084 = .. 0, / 8 = 24135, / 64 = 3016; 3 * 48271 = 144813 = .. 1, / 8 = 18101
        GateNames three = gate("g19g29g39");
        due(35, "lots(1, 4): 0, 1 meet", three.lots(1, 4), 0);
        asks(35, three, "goer(0, 2)", three.goer(0, 2), 1, 2);
        asks(35, three, "goer(1, 2)", three.goer(1, 2), 1, 1);
        due(35, "lots(1, 3): 2 leaves a card", three.lots(1, 3), 0);
        due(35, "the stone", three.count(5), 4);
        due(35, "lots(0, 1)", x.lots(0, 1), BAD);
        due(35, "lots(21, 1)", x.lots(21, 1), BAD);
        due(35, "lots(1, 0)", x.lots(1, 0), BAD);
        due(35, "lots(1, 2147483647)", x.lots(1, 2147483647), BAD);
        due(35, "lots(1, -1)", x.lots(1, -1), BAD);
        due(35, "lots(1, 2147483646)", x.lots(1, 2147483646) >= 0 ? 1 : 0, 1);
        due(35, "lots(1, 1) of none", new GateNames().lots(1, 1), STATE);
        due(35, "lots(0, 1) of none", new GateNames().lots(0, 1), BAD);
    }

    private static void asked() {
        GateNames x = new GateNames();
        due(36, "asked() at first", x.asked(), 0);
        fill(x, 0, 7, 9);
        x.at(0, 1);
        x.at(0, 2);
        x.at(9, 0);
        x.row(1, 3);
        x.most(0);
        due(36, "asked() behind what is refused", x.asked(), 9);
        x.mean(0);
        due(36, "asked() behind mean()", x.asked(), 8);
        write(x, 0, "g11g29");
        x.gate(0);
        x.most(2);
        x.orders();
        x.last(0);
        x.odds(1);
        x.tells(0, 1);
        due(36, "asked() behind what tells nothing by it", x.asked(), 8);
        x.go(1);
        x.open();
        due(36, "asked() behind open()", x.asked(), 2);
    }

    private static void counts() {
        GateNames x = gate("k19i20f30k49g50");
        x.row(1, 0);
        x.row(2, 3);
        x.row(3, 3);
        x.tear(3);
        x.text(3, 0);
        x.card(1);
        x.go(0);
        x.go(3);
        x.keep(1);
        int[] due = {5, 2, 3, 3, 9, 3, 3, 2, 2, 1, 2, 2};
        for (int what = 0; what < 12; what++) {
            due(39, "count(" + what + ")", x.count(what), due[what]);
        }
        due(39, "count(12)", x.count(12), BAD);
        due(39, "count(-1)", x.count(-1), BAD);
    }

    private static void findings() {
        GateNames x = new GateNames();
        due(40, "finding() at first", x.finding(), 0);
        x.row(0, -1);
        x.text(0, -5);
        x.tear(0);
        x.row(0, 0);
        x.mean(0);
        x.at(0, 0);
        x.row(9, 0);
        due(40, "finding()", x.finding(), BEYOND);
        int[] due = {BAD, 1, 1, 0, 1, 2, BAD};
        for (int f = 0; f < 7; f++) {
            due(41, "findings(" + f + ")", x.findings(f), due[f]);
        }
        due(41, "findings(-1)", x.findings(-1), BAD);
        due(41, "findings(greatest)", x.findings(Integer.MAX_VALUE), BAD);
    }

    private static long hash(int... values) {
        long h = 17;
        for (int v : values) {
            h = 31 * h + v;
        }
        return h;
    }

    private static void digests() {
        GateNames x = new GateNames();
        due(42, "digest() at first", x.digest(), hash(
            0, 0, 0, -9, 0, 0, 0, 0, 0, 0, 0, 0, -1, -1, -1, -1, -1, -1, -1, -1, -1, -1, -1, -1, -1));
        x = gate("g51k30");
        x.go(1);
        x.keep(2);
        fill(x, 1, 4, -4);
        x.text(3, 2);
        x.put(3, 1, 255);
        x.asked();
        due(42, "digest()", x.digest(), hash(
            2, 1, 1, 1, 2, 0, 1, 1, 2, 1, 0, 1,
            0, 5, 2, 1, 3, 0, 1,
            1, 3, 1, 2, 3, 1, 0,
            -1, -1, 1,
            -1, 2, 4, -4, -1, -1, -1, -1,
            6, 'g', '5', '1', 'k', '3', '0', -1, -1, 2, 32, -1));
    }
}
