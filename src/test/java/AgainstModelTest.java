import java.util.Random;

/** Runs of calls by seeded lots on the class and on the model: both must answer alike. */
public final class AgainstModelTest {
    private static final int RUNS = 1500, CALLS = 200;
    private static int wrong = 0;

    public static void main(String[] args) {
        for (int run = 0; run < RUNS && wrong < 20; run++) {
            new AgainstModelTest(run).run();
        }
        System.out.println(wrong == 0 ? RUNS + " runs are as the model's" : wrong + " answers differ");
        System.exit(wrong == 0 ? 0 : 1);
    }

    private final int run;
    private final Random lots;
    private final GateNames x = new GateNames();
    private final Model m = new Model();
    private String call = "";

    private AgainstModelTest(int run) {
        this.run = run;
        this.lots = new Random(run);
    }

    private void run() {
        if (run % 4 != 0) {
            gateByLots();
        }
        for (int k = 0; k < CALLS && wrong < 20; k++) {
            step();
            compareTold();
        }
    }

    private void due(String named, long got, long want) {
        call = named;
        if (got != want) {
            wrong++;
            System.out.println("run " + run + ": " + named + " answered " + got + ", the model " + want);
        }
    }

    private void compareTold() {
        String after = " after " + call;
        due("asked()" + after, x.asked(), m.asked());
        due("upper()" + after, x.upper(), m.upper());
        due("lower()" + after, x.lower(), m.lower());
        due("finding()" + after, x.finding(), m.finding());
        for (int f = 0; f <= 6; f++) {
            due("findings()" + after, x.findings(f), m.findings(f));
        }
        due("digest()" + after, x.digest(), m.digest());
    }

    private void gateByLots() {
        StringBuilder text = new StringBuilder();
        int goers = 2 + lots.nextInt(6);
        String letters = lots.nextInt(3) == 0 ? "gm" : "gksmif";
        for (int i = 0; i < goers; i++) {
            while (lots.nextInt(5) == 0 && text.length() < 30) {
                text.append(' ');
            }
            text.append(letters.charAt(lots.nextInt(letters.length())));
            text.append(lots.nextInt(10));
            text.append(lots.nextInt(5) == 0 ? lots.nextInt(10) : lots.nextInt(goers));
        }
        write(lots.nextInt(4), text);
    }

    private void write(int t, StringBuilder text) {
        due("text()", x.text(t, text.length()), m.text(t, text.length()));
        for (int k = 0; k < text.length(); k++) {
            due("put()", x.put(t, k, text.charAt(k)), m.put(t, k, text.charAt(k)));
        }
        due("fault(" + text + ")", x.fault(t), m.fault(t));
        due("gate(" + text + ")", x.gate(t), m.gate(t));
    }

    /** A text that is nearly a gate: its fault is what is looked for. */
    private void faultByLots() {
        StringBuilder text = new StringBuilder();
        int items = lots.nextInt(9);
        for (int i = 0; i < items; i++) {
            text.append("gksmif".charAt(lots.nextInt(6)));
            text.append(lots.nextInt(10)).append(lots.nextInt(10));
        }
        int changes = lots.nextInt(4);
        for (int c = 0; c < changes; c++) {
            int place = lots.nextInt(text.length() + 1);
            if (place < text.length() && lots.nextBoolean()) {
                text.setCharAt(place, " gksmif09x/:".charAt(lots.nextInt(12)));
            } else {
                text.insert(place, " ");
            }
        }
        text.setLength(Math.max(0, text.length() - (lots.nextInt(3) == 0 ? lots.nextInt(4) : 0)));
        int t = lots.nextInt(4);
        due("text()", x.text(t, text.length()), m.text(t, text.length()));
        for (int k = 0; k < text.length(); k++) {
            due("put()", x.put(t, k, text.charAt(k)), m.put(t, k, text.charAt(k)));
        }
        due("fault(" + text + ")", x.fault(t), m.fault(t));
    }

    private int near(int top) {
        int kind = lots.nextInt(20);
        if (kind == 0) {
            return -1;
        }
        if (kind == 1) {
            return top;
        }
        return lots.nextInt(top);
    }

    private int any() {
        return lots.nextInt(3) == 0 ? lots.nextInt() : lots.nextInt(300) - 100;
    }

    private int who() {
        return near(Math.max(2, x.count(0)));
    }

    private int set() {
        return near(Math.max(2, 1 << x.count(0)));
    }

    private void step() {
        int which = lots.nextInt(100);
        if (which < 22) {
            rowStep(which);
        } else if (which < 32) {
            textStep(which);
        } else if (which < 70) {
            deedStep(which);
        } else {
            lookStep(which);
        }
    }

    private void rowStep(int which) {
        int r = near(6);
        int i = near(8);
        if (which < 4) {
            int n = lots.nextInt(6) == 0 ? near(41) : lots.nextInt(9);
            due("row(" + r + ", " + n + ")", x.row(r, n), m.row(r, n));
        } else if (which < 8) {
            int v = any();
            due("lay(" + r + ", " + i + ", " + v + ")", x.lay(r, i, v), m.lay(r, i, v));
        } else if (which < 11) {
            due("at(" + r + ", " + i + ")", x.at(r, i), m.at(r, i));
        } else if (which < 12) {
            due("tear(" + r + ")", x.tear(r), m.tear(r));
        } else if (which < 15) {
            int to = near(6);
            int j = lots.nextInt(9) == 0 ? any() : near(4);
            int n = lots.nextInt(9) == 0 ? any() : near(6);
            due("copy(" + r + ", " + i + ", " + to + ", " + j + ", " + n + ")",
                x.copy(r, i, to, j, n), m.copy(r, i, to, j, n));
        } else if (which < 17) {
            due("mean(" + r + ")", x.mean(r), m.mean(r));
        } else {
            pairStep(r);
        }
    }

    private void pairStep(int r) {
        int i = who();
        int pairs = lots.nextInt(3);
        int kind = lots.nextInt(6);
        if (lots.nextInt(3) > 0) {
            due("row()", x.row(r, 2 * pairs), m.row(r, 2 * pairs));
            for (int k = 0; k < pairs; k++) {
                int told = set();
                int self = i < 0 ? 0 : 1 << i;
                int tells = kind == 3 ? 0 : kind == 4 ? told | self : kind == 5 ? told & ~self : self;
                tells = lots.nextInt(10) == 0 ? set() : tells;
                due("lay()", x.lay(r, 2 * k, told), m.lay(r, 2 * k, told));
                due("lay()", x.lay(r, 2 * k + 1, tells), m.lay(r, 2 * k + 1, tells));
            }
        }
        due("kinds(" + i + ", " + r + ")", x.kinds(i, r), m.kinds(i, r));
        due("test(" + i + ", " + r + ")", x.test(i, r), m.test(i, r));
    }

    private void textStep(int which) {
        int t = near(4);
        if (which < 24) {
            int n = near(61);
            due("text(" + t + ", " + n + ")", x.text(t, n), m.text(t, n));
        } else if (which < 26) {
            int i = near(20);
            int v = any();
            due("put(" + t + ", " + i + ", " + v + ")", x.put(t, i, v), m.put(t, i, v));
        } else if (which < 29) {
            faultByLots();
        } else if (which < 31) {
            due("fault(" + t + ")", x.fault(t), m.fault(t));
            due("gate(" + t + ")", x.gate(t), m.gate(t));
        } else {
            gateByLots();
        }
    }

    private void deedStep(int which) {
        int i = who();
        int j = who();
        int k = near(3);
        if (which < 38) {
            due("meet(" + i + ", " + j + ")", x.meet(i, j), m.meet(i, j));
        } else if (which < 42) {
            due("card(" + i + ")", x.card(i), m.card(i));
        } else if (which < 47) {
            due("reads(" + i + ")", x.reads(i), m.reads(i));
        } else if (which < 57) {
            due("go(" + i + ")", x.go(i), m.go(i));
        } else if (which < 60) {
            int n = near(Math.max(1, x.count(2) + 1));
            due("undo(" + n + ")", x.undo(n), m.undo(n));
        } else if (which < 63) {
            due("keep(" + k + ")", x.keep(k), m.keep(k));
        } else if (which < 66) {
            due("on(" + k + ")", x.on(k), m.on(k));
        } else {
            int n = near(21);
            int seed = lots.nextInt();
            due("lots(" + n + ", " + seed + ")", x.lots(n, seed), m.lots(n, seed));
        }
    }

    private void lookStep(int which) {
        int i = who();
        int what = near(13);
        int r = near(6);
        switch (which - 70) {
            case 0: due("open()", x.open(), m.open()); break;
            case 1: due("most(" + r + ")", x.most(r), m.most(r)); break;
            case 2: due("most(" + r + ")", x.most(r), m.most(r)); break;
            case 3: due("worth()", x.worth(), m.worth()); break;
            case 4: due("worth()", x.worth(), m.worth()); break;
            case 5: due("orders()", x.orders(), m.orders()); break;
            case 6: due("orders()", x.orders(), m.orders()); break;
            case 7: due("meetings()", x.meetings(), m.meetings()); break;
            case 8: due("stone()", x.stone(), m.stone()); break;
            case 9: due("hold()", x.hold(), m.hold()); break;
            case 10: due("duel()", x.duel(), m.duel()); break;
            case 11: due("odds(" + what + ")", x.odds(what), m.odds(what)); break;
            case 12: due("mid(" + what + ")", x.mid(what), m.mid(what)); break;
            case 13: lastStep(); break;
            case 14: tellsStep(i); break;
            case 15: case 16: case 17: markStep(i); break;
            case 18: due("count(" + what + ")", x.count(what), m.count(what)); break;
            default: due("goer(" + i + ", " + what % 8 + ")", x.goer(i, what % 8), m.goer(i, what % 8)); break;
        }
    }

    private void lastStep() {
        int set = set();
        due("last(" + set + ")", x.last(set), m.last(set));
        for (int s = 0; s < 1 << x.count(0); s++) {
            due("last(" + s + ")", x.last(s), m.last(s));
        }
    }

    private void tellsStep(int i) {
        int set = set();
        due("tells(" + i + ", " + set + ")", x.tells(i, set), m.tells(i, set));
    }

    private void markStep(int i) {
        for (int kind = -1; kind <= 6; kind++) {
            due("mark(" + i + ", " + kind + ")", x.mark(i, kind), m.mark(i, kind));
        }
    }
}
