import java.util.ArrayList;
import java.util.Arrays;
import java.util.List;

/**
 * Every call with every edge of its arguments, in several states, and texts with every TOKEN left out, put in or
 * changed: the answers and all that can be told behind them are compared with the slow model's.
 */
public final class GridTest {
    private static final long MIN = Integer.MIN_VALUE;
    private static final long MAX = Integer.MAX_VALUE;
    private static final long[] WIDE = {MIN, -1, 0, 1, 2, 3, 4, 5, 6, 7, 8, 9, 10, 11, 12, 13, 15, 16, 24, 25, 26, 29, 30, 31, 32,
        59, 60, 61, 63, 64, 98, 99, 100, 299, 300, 301, 320, 321, 900, 901, 9969, 9970, 9971, 9999, 10000, MAX};
    private static final long[] NARROW = {MIN, -1, 0, 1, 2, 3, 4, 5, 6, 7, 24, 25, 26, 60, 61, 63, 64, MAX};
    private static final long[] TRAYS = {MIN, -1, 0, 1, 2, 3, 4, MAX};
    private static final long[] PLACES = {MIN, -1, 0, 1, 2, 24, 25, 59, 60, 61, MAX};
    private static final long[] NUMBERS = {Long.MIN_VALUE, MIN - 1, MIN, -32769, -32768, -129, -128, -1, 0, 99, 100, 127, 128, 255, 256,
        32767, 32768, 65536, MAX, MAX + 1, Long.MAX_VALUE};
    private static final List<String> CHANGING = Arrays.asList("tray", "write", "plain", "orders", "build", "buildAll", "largest",
        "cheapest", "order", "built", "mark", "back");

    private static int wrong = 0;
    private static long asked = 0;

    private NineSights x;
    private SlowModel m;
    private final int state;

    private GridTest(int state) {
        this.state = state;
        settle();
    }

    // ---- the two side by side

    private long both(String name, long... args) {
        long got = Told.ask(x, name, args);
        long due = Told.ask(m, name, args);
        boolean same = got == due && x.status() == m.status() && x.top() == m.top() && x.bottom() == m.bottom();
        asked++;
        if (!same) {
            report(name + Arrays.toString(args) + " answered " + got + " status " + x.status() + ", due is " + due + " status " + m.status());
        }
        return got;
    }

    private void report(String what) {
        wrong++;
        if (wrong <= 20) {
            System.out.println("state " + state + ": " + what);
        }
    }

    private void allIsSame(String what) {
        asked++;
        if (!Told.ofGiven(x).equals(Told.ofGiven(m))) {
            report("behind " + what + " not all is told the same");
        }
        settle();
    }

    private void text(String name, String text) {
        StringBuilder t = new StringBuilder(text);
        while (t.length() % 20 != 0) {
            t.append('#');
        }
        for (int i = 0; i < t.length(); i += 20) {
            long[] w = new long[5];
            for (int k = 0; k < 20; k++) {
                w[k / 4] = (int) w[k / 4] << 8 | t.charAt(i + k) & 255;
            }
            both("feed", w);
        }
        both(name, text.length());
        both("fault", 0);
        both("fault", 1);
    }

    private void fill(int tray, int sort, int many, int... numbers) {
        both("tray", tray, sort, many);
        for (int k = 0; k < numbers.length; k++) {
            both("write", tray, k, numbers[k]);
        }
    }

    // ---- the states

    private void settle() {
        x = new NineSights();
        m = new SlowModel();
        switch (state) {
            case 1 -> settleSmall();
            case 2 -> settleMiddle();
            case 3 -> settleLarge();
            case 4 -> settleBarred();
            default -> { }
        }
    }

    private void settleSmall() {
        text("plain", "size 1 1;");
        fill(0, 0, 0);
        fill(1, 0, 1, 7);
        fill(2, 3, 60, 0, 99, 3);
        both("mark");
    }

    private void settleMiddle() {
        fill(0, 1, 6, 0, 2, 1, 0, 3, 0);
        fill(1, 1, 24, 0, 2, 1, 0, 3, 0, 3, 0, 0, 1, 2, 0, 0, 2, 3, 0, 0, 0, 1, 1, 1, 1, 1, 1);
        fill(3, 2, 9, 1, 2, 3);
        text("plain", "size 3 2;most 4 9 9;least 0 1 0;price 2 3 99;village a s sees 1 2 3;village b nw;village c w sees 2 3;");
        both("mark");
        both("buildAll", 0);
        both("order", 0);
        text("orders", "loop 3;raise 0 0;storm 2;when sees a at 2>0;lower 2 1;end;end;when same c;stop;end;raise 1 1 by 9;");
        both("built", 5);
        both("mark");
        both("least", 1);
        both("buildAll", 0);
        both("mark");
    }

    private void settleLarge() {
        String rows = " 3 4 5 6 7;";
        text("plain", "size 5 5;" + ("price" + rows).repeat(5) + "least 0 0 0 1 0;village a n sees 2 2 2 2 2;village b ne;"
            + "village c e sees 2 2 2 2 2;village d se;village f s sees 2 2 2 2 2;village g w sees 2 2 2 2 2;");
        text("orders", "storm 99;raise 4 4 by 99;loop 99;lower 0 0;end;");
        both("cheapest", 63);
        fill(0, 0, 25, 0, 0, 0, 1, 2, 0, 0, 0, 2, 0, 0, 0, 2, 0, 0, 0, 2, 0, 0, 0, 2, 0, 0, 0, 0);
        fill(1, 2, 60, 2, 2, 2, 2, 2);
        fill(2, 0, 50, 1);
        for (int k = 0; k < 16; k++) {
            both("feed", 0x73746f70, 0x3b202020, 0x20202020, 0x20202020, 0x20202020);
        }
    }

    private void settleBarred() {
        text("plain", "size 2 2;most 5 5;least 6 1;village a s sees 3 3;village b s sees 4 4;village c ne;");
        text("orders", "");
        both("build", 1, 9);
        fill(0, 3, 4, 6, 1, 0, 3);
        fill(1, 3, 4, 1, 6, 3, 0);
        both("mark");
        both("mark");
    }

    // ---- the grid

    private void ask(String name, long... args) {
        both(name, args);
        if (m.status() == 0 && CHANGING.contains(name)) {
            allIsSame(name + Arrays.toString(args));
        }
    }

    private void ofOne(String name, long[] values) {
        for (long v : values) {
            ask(name, v);
        }
        allIsSame(name);
    }

    private void ofTwo(String name, long[] first, long[] second) {
        for (long a : first) {
            for (long b : second) {
                ask(name, a, b);
            }
        }
        allIsSame(name);
    }

    private void ofThree(String name, long[] first, long[] second, long[] third) {
        for (long a : first) {
            for (long b : second) {
                for (long c : third) {
                    ask(name, a, b, c);
                }
            }
        }
        allIsSame(name);
    }

    private void pours() {
        for (long from : new long[] {-1, 0, 1, 2, 3, 4}) {
            for (long to : new long[] {-1, 0, 1, 2, 3, 4}) {
                for (long i : PLACES) {
                    for (long j : PLACES) {
                        for (long many : PLACES) {
                            both("pour", from, i, to, j, many);
                        }
                    }
                }
                allIsSame("pour");
            }
        }
    }

    private void play() {
        for (String name : new String[] {"stone", "struck", "highest", "mark", "back", "status", "top", "bottom"}) {
            ask(name);
            allIsSame(name);
        }
        for (String name : new String[] {"plain", "orders", "many", "height", "buildAll", "otherwise", "can", "largest", "cheapest",
            "least", "courts", "towns", "down", "instead", "order", "orderAt", "built", "building", "fault"}) {
            ofOne(name, WIDE);
        }
        for (String name : new String[] {"cell", "village", "promised", "strip", "build", "seen", "cap", "barred", "watchers", "tenth",
            "like", "tally"}) {
            ofTwo(name, WIDE, WIDE);
        }
        ofThree("sure", NARROW, NARROW, NARROW);
        ofThree("apart", TRAYS, TRAYS, NARROW);
        ofThree("tray", TRAYS, TRAYS, PLACES);
        ofThree("write", TRAYS, PLACES, NUMBERS);
        ofTwo("read", TRAYS, PLACES);
        pours();
    }

    // ---- texts

    private static final String[] TOKENS = {";", "<", ">", "=", "#", "0", "1", "2", "3", "5", "6", "8", "9", "99", "100", "0099", "9999",
        "10000", "size", "most", "least", "price", "village", "sees", "raise", "lower", "by", "storm", "when", "cell", "at", "same",
        "stone", "loop", "end", "stop", "n", "ne", "sw", "a", "b", "abcdefgh", "abcdefghi", "\t", "\n", "A"};

    /** Each TOKEN of the text is left out, has another ahead of it, or is another one. */
    private void texts(String name, String text) {
        List<String> tokens = new ArrayList<>(List.of(text.split(" ")));
        for (int k = 0; k <= tokens.size(); k++) {
            for (String other : TOKENS) {
                List<String> more = new ArrayList<>(tokens);
                more.add(k, other);
                taken(name, more);
                if (k < tokens.size()) {
                    more.remove(k + 1);
                    taken(name, more);
                }
            }
            if (k < tokens.size()) {
                List<String> fewer = new ArrayList<>(tokens);
                fewer.remove(k);
                taken(name, fewer);
            }
            taken(name, tokens.subList(0, k));
        }
        allIsSame(text);
    }

    private void taken(String name, List<String> tokens) {
        text(name, String.join(" ", tokens));
        if (m.status() == 0 && name.equals("plain")) {
            allIsSame(tokens.toString());
        }
    }

    private void playTexts() {
        texts("plain", "size 2 2 ; most 1 2 ; least 3 4 ; price 5 6 ; village a n sees 7 8 ; village b ne ; most 9 9 ; village c w sees 1 1 ;");
        texts("plain", "size 1 2 ; village a e ; village f sw ; village g n sees 5 ; village h s ; village i s ; village j s sees 5 ;");
        texts("orders", "raise 0 1 by 5 ; lower 1 0 ; storm 9 ; when cell 1 1 < 3 ; loop 2 ; stop ; end ; end ;");
        texts("orders", "when sees a at 1 > 2 ; end ; when same b ; when stone = 9 ; loop 3 ; end ; end ; end ;");
        texts("orders", "stop ; ".repeat(29) + "loop 1 ; end ;");
    }

    public static void main(String[] args) {
        for (int state = 0; state < 5; state++) {
            new GridTest(state).play();
        }
        new GridTest(2).playTexts();
        System.out.println(wrong == 0 ? asked + " answers as the slow model's" : wrong + " of " + asked + " not as the slow model's");
        if (wrong != 0) {
            System.exit(1);
        }
    }
}
