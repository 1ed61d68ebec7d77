import java.util.Arrays;
import java.util.List;
import java.util.Map;
import java.util.function.BooleanSupplier;
import java.util.function.LongSupplier;

/** What the tests by hand have in common: an object, texts and rows for it, and what is due of it. */
abstract class Bench {
    static final int MIN = Integer.MIN_VALUE;
    static final int MAX = Integer.MAX_VALUE;
    static final String[] SIDES = {"n", "ne", "e", "se", "s", "sw", "w", "nw"};

    static NineSights x = new NineSights();
    static int promise = 0;
    private static int wrong = 0;
    private static int asked = 0;

    static void begin(int number) {
        promise = number;
        x = new NineSights();
    }

    static void end() {
        System.out.println(wrong == 0 ? asked + " answers are as due" : wrong + " of " + asked + " answers are not as due");
        if (wrong != 0) {
            System.exit(1);
        }
    }

    // ---- what is due

    static void due(String what, Object got, Object want) {
        asked++;
        if (!got.equals(want)) {
            wrong++;
            System.out.println("promise " + promise + ": " + what + " answered " + got + ", due is " + want);
        }
    }

    static void due(String what, long got, long want) {
        due(what, (Object) got, (Object) want);
    }

    /** An answer with STATUS 0. */
    static void is(String what, long got, long want) {
        due(what, got, want);
        due(what + ": status", x.status(), 0);
    }

    static void is(String what, boolean got) {
        due(what, got, (Object) true);
        due(what + ": status", x.status(), 0);
    }

    /** NONE with this STATUS, and nothing else that any call could tell is changed. */
    static void no(String what, LongSupplier call, int status) {
        Map<String, List<Long>> before = Told.of(x);
        due(what, call.getAsLong(), -1);
        due(what + ": status", x.status(), status);
        unchanged(what, before);
    }

    /** false with this STATUS, and nothing else that any call could tell is changed. */
    static void no(String what, BooleanSupplier call, int status) {
        Map<String, List<Long>> before = Told.of(x);
        due(what, call.getAsBoolean(), (Object) false);
        due(what + ": status", x.status(), status);
        unchanged(what, before);
    }

    /** The rest of the state is as it was, but for these. */
    static void unchanged(String what, Map<String, List<Long>> before, String... butFor) {
        Map<String, List<Long>> behind = Told.of(x);
        for (String part : before.keySet()) {
            if (!Arrays.asList(butFor).contains(part)) {
                due(what + ": the " + part + " as before", behind.get(part), before.get(part));
            }
        }
    }

    // ---- texts

    /** The text is filled up by signs that begin no TOKEN, to be seen if one is read beyond its end. */
    static void feed(String text) {
        StringBuilder t = new StringBuilder(text);
        while (t.length() % 20 != 0) {
            t.append('#');
        }
        for (int i = 0; i < t.length(); i += 20) {
            int[] w = new int[5];
            for (int k = 0; k < 20; k++) {
                w[k / 4] = w[k / 4] << 8 | t.charAt(i + k) & 255;
            }
            x.feed(w[0], w[1], w[2], w[3], w[4]);
        }
    }

    static int plain(String text) {
        feed(text);
        return x.plain(text.length());
    }

    static int orders(String text) {
        feed(text);
        return x.orders(text.length());
    }

    /** A FAULT: NONE with 10, the tape is empty, and all else is as it was. */
    static void faultOfPlain(String text, int kind, int place) {
        Map<String, List<Long>> before = Told.of(x);
        faultTold(text, plain(text), kind, place);
        unchanged(text, before, "fault", "tape");
    }

    static void faultOfOrders(String text, int kind, int place) {
        Map<String, List<Long>> before = Told.of(x);
        faultTold(text, orders(text), kind, place);
        unchanged(text, before, "fault", "tape");
    }

    private static void faultTold(String text, int answer, int kind, int place) {
        due(text, answer, -1);
        due(text + ": status", x.status(), 10);
        due(text + ": fault", x.fault(0), kind);
        due(text + ": place", x.fault(1), place);
        due(text + ": the tape is empty", Told.copy(x).feed(0, 0, 0, 0, 0), 20);
    }

    static void takenAsPlain(String text, int cells) {
        is(text, plain(text), cells);
        due(text + ": no fault", x.fault(0), 0);
        due(text + ": no place", x.fault(1), -1);
    }

    static void takenAsOrders(String text, int steps) {
        is(text, orders(text), steps);
        due(text + ": no fault", x.fault(0), 0);
        due(text + ": no place", x.fault(1), -1);
    }

    /** " v" so many times, for rows of the texts. */
    static String times(int many, int v) {
        return (" " + v).repeat(many);
    }

    // ---- trays and the town

    static void fill(int tray, int... numbers) {
        x.tray(tray, 1, numbers.length);
        for (int k = 0; k < numbers.length; k++) {
            x.write(tray, k, numbers[k]);
        }
    }

    /** So many times the same number. */
    static int[] all(int many, int v) {
        int[] row = new int[many];
        Arrays.fill(row, v);
        return row;
    }

    static void town(int... heights) {
        for (int c = 0; c < heights.length; c++) {
            is("build", x.build(c, heights[c]));
        }
    }

    static void townIs(int... heights) {
        for (int c = 0; c < heights.length; c++) {
            is("height of " + c, x.height(c), heights[c]);
        }
    }
}
