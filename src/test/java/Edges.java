import java.lang.reflect.InvocationTargetException;
import java.lang.reflect.Method;
import java.util.ArrayList;
import java.util.Arrays;
import java.util.Comparator;
import java.util.List;
import java.util.Set;
import java.util.TreeSet;
import java.util.regex.Matcher;
import java.util.regex.Pattern;

/** Runs tests of single sentences, each a method that bears its promise's number, and holds what they share. */
final class Edges {
    static final int BAD = -1, FULL = -2, FINDING = -3, STATE = -4, NONE = -9;
    static final int NOTHING = 1, BEYOND = 2, UNLIKE = 3, NOUGHT = 4, SIZE = 5;
    static final int LEAST = Integer.MIN_VALUE, GREATEST = Integer.MAX_VALUE;

    private static final Pattern NAME = Pattern.compile("promise(\\d\\d)_\\w+");
    private static String test = "";
    private static int wrong = 0;

    interface Scene {
        GateNames make();
    }

    interface Call {
        int on(GateNames x);
    }

    interface NumberedCall {
        int on(GateNames x, int number);
    }

    private Edges() {
    }

    // ---- running

    /** Runs all tests of a class; each promise of a range must have one. */
    static void run(Class<?> tests, int first, int last) throws ReflectiveOperationException {
        Method[] methods = tests.getDeclaredMethods();
        Arrays.sort(methods, Comparator.comparing(Method::getName));
        Set<Integer> promises = new TreeSet<>();
        int ran = 0;
        for (Method method : methods) {
            Matcher named = NAME.matcher(method.getName());
            if (named.matches()) {
                test = method.getName();
                invoke(method);
                promises.add(Integer.parseInt(named.group(1)));
                ran++;
            }
        }
        test = tests.getName();
        for (int promise = first; promise <= last; promise++) {
            due("a test of promise " + promise, promises.contains(promise) ? 1 : 0, 1);
        }
        System.out.println(ran + " tests of promises " + first + " to " + last + ", " + wrong + " answers wrong");
        System.exit(wrong == 0 ? 0 : 1);
    }

    private static void invoke(Method method) throws IllegalAccessException {
        try {
            method.invoke(null);
        } catch (InvocationTargetException thrown) {
            wrong++;
            System.out.println(test + " threw " + thrown.getCause());
        }
    }

    // ---- what is due

    static void due(String what, long got, long want) {
        if (got != want) {
            wrong++;
            System.out.println(test + ": " + what + " answered " + got + ", due is " + want);
        }
    }

    /** A call that tells something by asked(), too. */
    static void asks(GateNames x, String what, int got, int want, int asked) {
        due(what, got, want);
        due("asked() behind " + what, x.asked(), asked);
    }

    /** A call that tells something by upper(), lower(). */
    static void parts(GateNames x, String what, int got, long upper, long lower) {
        due(what, got, 1);
        due("upper() behind " + what, x.upper(), upper);
        due("lower() behind " + what, x.lower(), lower);
    }

    /** The call answers BAD, FULL, STATE or NONE, and nothing whatever changes. */
    static void refused(Scene scene, Call call, int answer) {
        GateNames x = scene.make();
        GateNames twin = scene.make();
        due("the call", call.on(x), answer);
        due("finding() behind it", x.finding(), twin.finding());
        for (int f = NOTHING; f <= SIZE; f++) {
            due("findings(" + f + ") behind it", x.findings(f), twin.findings(f));
        }
        alike(x, twin);
    }

    /** The call answers a FINDING, and nothing but finding(), findings() changes. */
    static void finds(Scene scene, Call call, int finding) {
        GateNames x = scene.make();
        GateNames twin = scene.make();
        due("the call", call.on(x), FINDING);
        due("finding() behind it", x.finding(), finding);
        for (int f = NOTHING; f <= SIZE; f++) {
            due("findings(" + f + ") behind it", x.findings(f), twin.findings(f) + (f == finding ? 1 : 0));
        }
        alike(x, twin);
    }

    /** The call takes the first and the last number; those outside are BAD and change nothing. */
    static void takes(Scene scene, int first, int last, NumberedCall call) {
        badOutside(scene, first, last, call);
        for (int number : new int[] {first, last}) {
            due("whether " + number + " is BAD", call.on(scene.make(), number) == BAD ? 1 : 0, 0);
        }
    }

    static void badOutside(Scene scene, int first, int last, NumberedCall call) {
        for (int number : new int[] {first - 1, last + 1, LEAST, GREATEST}) {
            refused(scene, x -> call.on(x, number), BAD);
        }
    }

    /** The call answers what is due, and nothing changes but what asked() tells. */
    static void aside(Scene scene, Call call, int answer, int asked) {
        GateNames x = scene.make();
        GateNames twin = scene.make();
        due("the call", call.on(x), answer);
        due("asked() behind it", x.asked(), asked);
        x.row(4, 1);
        twin.row(4, 1);
        x.at(4, 0);
        twin.at(4, 0);
        alike(x, twin);
    }

    /** Two objects tell the same of everything but findings; both are taken apart by that. */
    static void alike(GateNames x, GateNames twin) {
        List<Long> got = everything(x);
        List<Long> want = everything(twin);
        due("whether all else is as it was", got.equals(want) ? 1 : 0, 1);
    }

    /** All that calls can tell of an object; it is taken apart by that. */
    private static List<Long> everything(GateNames x) {
        List<Long> told = new ArrayList<>(List.of((long) x.asked(), x.upper(), x.lower(), x.digest()));
        for (int r = 0; r < 6; r++) {
            for (int i = 0; x.at(r, i) == 1; i++) {
                told.add((long) x.asked());
            }
        }
        tellDeeds(x, told);
        for (int k = 0; k < 3; k++) {
            told.add((long) x.on(k));
            tellDeeds(x, told);
        }
        for (int t = 0; t < 4; t++) {
            int was = x.put(t, 0, 0);
            for (int i = 1; was != FINDING; i++) {
                told.add((long) was);
                was = x.put(t, i, 0);
            }
        }
        return told;
    }

    private static void tellDeeds(GateNames x, List<Long> told) {
        for (int n = x.count(2); n >= 0; n--) {
            told.add((long) x.undo(n));
            told.add(x.digest());
        }
    }

    /** A row has just these ints. */
    static void rowIs(GateNames x, int r, int... want) {
        for (int i = 0; i < want.length; i++) {
            asks(x, "at(" + r + ", " + i + ")", x.at(r, i), 1, want[i]);
        }
        due("at(" + r + ", " + want.length + ")", x.at(r, want.length), FINDING);
        due("finding() behind it", x.finding(), BEYOND);
    }

    // ---- scenes

    static void write(GateNames x, int t, String text) {
        x.text(t, text.length());
        for (int i = 0; i < text.length(); i++) {
            x.put(t, i, text.charAt(i));
        }
    }

    static void fill(GateNames x, int r, int... values) {
        x.row(r, values.length);
        for (int i = 0; i < values.length; i++) {
            x.lay(r, i, values[i]);
        }
    }

    static GateNames gate(String text) {
        GateNames x = new GateNames();
        write(x, 0, text);
        due("gate() of \"" + text + "\"", x.gate(0), text.replace(" ", "").length() / 3);
        return x;
    }

    /** A gate at which some have gone through, one behind the other. */
    static GateNames gone(String text, int... goers) {
        GateNames x = gate(text);
        for (int i : goers) {
            due("go(" + i + ")", x.go(i), x.count(1));
        }
        return x;
    }

    static GateNames bare() {
        return new GateNames();
    }

    /**
     * Something of everything: seven goers of which 0 has gone through, deeds, a stone with a card,
     * kept gates 0 and 2, rows 0, 3 (empty) and 5, texts 0 and 2 (with a fault), and all told before.
     */
    static GateNames rich() {
        GateNames x = gate("k11g20s39m42i50f61s72");
        x.meet(1, 4);
        x.keep(0);
        x.card(4);
        x.reads(3);
        x.keep(2);
        x.go(0);
        fill(x, 0, 5, -7, 9);
        x.row(3, 0);
        fill(x, 5, 2, 3, 0, 1);
        write(x, 2, "g00 k?");
        x.odds(5);
        x.row(0, -1);
        x.mean(3);
        x.mark(0, 3);
        x.tear(4);
        x.at(0, 3);
        x.at(0, 1);
        return x;
    }

    /** The rich scene with forty deeds; 0 has gone, all others wait. */
    static GateNames full() {
        GateNames x = rich();
        for (int k = x.count(2); k < 40; k++) {
            x.card(4);
        }
        return x;
    }

    /** Two who know one another, both gone through. */
    static GateNames everybody() {
        return gone("g51g70", 1, 0);
    }

    /** Behind 0 the gate is shut to 1 and 2. */
    static GateNames shut() {
        return gone("g59g69g71", 0);
    }
}
