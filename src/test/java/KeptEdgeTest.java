import java.util.ArrayList;
import java.util.List;

/** Boundaries of promises 24 to 33: promises, whether they CAN be KEPT, and by which TOWNS. */
public final class KeptEdgeTest extends Bench {
    private static final String SIX = "size 2 1;village a s sees 3 4;village b s;village c n sees 4 3;village d w sees 4;"
        + "village f e;village g sw sees 3 4;";

    private static String row(String part, int... numbers) {
        StringBuilder b = new StringBuilder(part);
        for (int n : numbers) {
            b.append(' ').append(n);
        }
        return b.append(';').toString();
    }

    // ---- sets: promises 24 to 32

    private static void setsWithOthers() {
        begin(24);
        String villages = "";
        for (int v = 0; v <= 6; v++) {
            is("plain", plain("size 1 1;" + villages), 1);
            is("all of them", x.can((1 << v) - 1), 1);
            int above = 1 << v;
            for (int set : new int[] {above, above + 1, above << 1, 1 << 30, MAX, -1, MIN, ~(above - 1)}) {
                setRefused(set);
            }
            villages += "village v" + (char) ('a' + v) + " n" + (v % 2 == 0 ? " sees 5;" : ";");
        }
    }

    private static void setRefused(int set) {
        promise = 24;
        no("cap", () -> x.cap(0, set), 2);
        promise = 25;
        no("can", () -> x.can(set), 2);
        promise = 26;
        no("barred", () -> x.barred(set, 0), 2);
        no("2 ahead of 5", () -> x.barred(set, 3), 2);
        promise = 27;
        no("largest", () -> x.largest(set), 2);
        promise = 28;
        no("cheapest", () -> x.cheapest(set), 2);
        promise = 29;
        no("least", () -> x.least(set), 2);
        promise = 30;
        no("courts", () -> x.courts(set), 2);
        promise = 31;
        no("towns", () -> x.towns(set), 2);
        promise = 32;
        no("sure", () -> x.sure(set, 0, 0), 2);
        no("2 ahead of 5", () -> x.sure(set, 0, 2), 2);
    }

    private static void noSuchCell() {
        begin(24);
        is("plain", plain(SIX), 2);
        for (int cell : new int[] {-1, 2, 25, MIN, MAX}) {
            promise = 24;
            no("cap", () -> x.cap(cell, 0), 2);
            no("neither", () -> x.cap(cell, 64), 2);
            promise = 32;
            no("sure", () -> x.sure(0, cell, 0), 2);
            no("2 ahead of 5", () -> x.sure(0, cell, -1), 2);
            no("2 ahead of 9", () -> x.sure(63, cell, 0), 2);
        }
    }

    // ---- promise 24

    private static void caps() {
        begin(24);
        is("plain", plain("size 2 1;most 5 99;village a s sees 5 6;village b w sees 0;village c n sees 99 4;village d e;"), 2);
        is("the MOST", x.cap(0, 0), 5);
        is("the MOST", x.cap(1, 0), 99);
        is("a promise as the MOST", x.cap(0, 1), 5);
        is("a promise below the MOST", x.cap(1, 1), 6);
        is("a promise above the MOST", x.cap(1, 4), 99);
        is("of several the least", x.cap(0, 5), 4);
        is("a promise of 0", x.cap(0, 2), 0);
        is("of all", x.cap(1, 15), 0);
        is("one without a SKYLINE does not matter", x.cap(1, 8), 99);
        is("plain", plain("size 1 1;most 2;least 9;"), 1);
        is("the LEAST does not matter", x.cap(0, 0), 2);
    }

    // ---- promises 25 and 26

    private static void canBeOrNot() {
        begin(25);
        is("plain", plain("size 2 1;most 5 3;least 4 3;village a s sees 5 3;village b s sees 4 3;village c s sees 3 3;"
            + "village d s sees 6 3;village f w sees 5;village g w sees 6;"), 2);
        is("LEAST as the MOST", x.can(0), 1);
        is("a CAP above the LEAST", x.can(1), 1);
        is("a CAP as the LEAST", x.can(2), 1);
        is("a CAP below the LEAST", x.can(4), 0);
        is("a promise above the MOST", x.can(8), 0);
        is("one of two CELLS is enough", x.can(16), 1);
        is("no CELL is so high", x.can(32), 0);
        is("each of them", x.can(1) + x.can(2), 2);
        is("not both", x.can(3), 0);
        promise = 26;
        is("the CELL", x.barred(4, 0), 0);
        is("no VILLAGE", x.barred(4, 1), -1);
        is("no strip", x.barred(4, 2), -1);
        is("no CELL", x.barred(8, 0), -1);
        is("the VILLAGE, by its own number", x.barred(8, 1), 3);
        is("the strip", x.barred(8, 2), 0);
        is("no CELL", x.barred(32, 0), -1);
        is("the VILLAGE", x.barred(32, 1), 5);
        is("the first VILLAGE", x.barred(3, 1), 0);
        is("the first VILLAGE of two", x.barred(40, 1), 3);
        is("a CELL ahead of strips", x.barred(44, 0), 0);
        is("a CELL ahead of strips", x.barred(44, 1), -1);
        for (int set : new int[] {0, 1, 2, 16}) {
            for (int what = 0; what < 3; what++) {
                int asked = what;
                no("they CAN be", () -> x.barred(set, asked), 8);
            }
            for (int what : new int[] {-1, 3, MIN, MAX}) {
                no("5 ahead of 8", () -> x.barred(set, what), 5);
            }
        }
        for (int what : new int[] {-1, 3, MIN, MAX}) {
            no("what", () -> x.barred(4, what), 5);
        }
    }

    private static void firstBarred() {
        begin(26);
        is("plain", plain("size 3 1;most 9 1 1;least 0 2 2;village a s sees 99 0 0;"), 3);
        is("can't without any", x.can(0), 0);
        is("the first CELL", x.barred(0, 0), 1);
        is("the first CELL, not the first strip", x.barred(1, 0), 1);
        is("plain", plain("size 5 5;village a nw sees 1 1 1 1 1 1 1 1 1;village b sw sees 1 1 1 1 1 1 1 1 2;"), 25);
        is("no CELL", x.barred(3, 0), -1);
        is("the VILLAGE", x.barred(3, 1), 1);
        is("the ninth strip", x.barred(3, 2), 8);
        is("plain", plain("size 3 1;village a s sees 1 2 3;village b s sees 1 3 2;"), 3);
        is("the first VILLAGE", x.barred(3, 1), 0);
        is("its first such strip", x.barred(3, 2), 2);
    }

    // ---- promises 27 to 30, 32: 9

    private static void cannotBe() {
        begin(27);
        is("plain", plain("size 2 1;least 1 1;village a s sees 3 3;village b s sees 4 4;village c w sees 0;"), 2);
        is("least", x.least(1), 4);
        town(7, 8);
        for (int set : new int[] {3, 4, 5, 6, 7}) {
            promise = 27;
            no("largest", () -> x.largest(set), 9);
            promise = 28;
            no("cheapest", () -> x.cheapest(set), 9);
            promise = 29;
            no("least", () -> x.least(set), 9);
            promise = 30;
            no("courts", () -> x.courts(set), 9);
            promise = 31;
            is("no TOWNS, but no FAULT", x.towns(set), 0);
            promise = 32;
            no("sure", () -> x.sure(set, 0, 0), 9);
            no("sure", () -> x.sure(set, 1, 1), 9);
            no("5 ahead of 9", () -> x.sure(set, 1, 2), 5);
        }
        townIs(7, 8);
    }

    // ---- promises 27 to 29

    private static void largestAndCheapest() {
        begin(27);
        String five = times(5, 99) + ";";
        is("plain", plain("size 5 5;" + ("price" + five).repeat(5) + "village a n sees" + five), 25);
        is("as much as can be", x.largest(1), 25 * 99 * 99);
        is("all at their CAPS", x.height(24), 99);
        is("STONE", x.stone(), 25 * 99 * 99);
        promise = 28;
        is("nothing is to be seen", x.cheapest(0), 0);
        townIs(new int[25]);
        is("one of each column", x.cheapest(1), 5 * 99 * 99);
        is("the first rows LOW", x.height(19), 0);
        is("the last row", x.height(20), 99);
        promise = 27;
        is("by none: the MOST", x.largest(0), 25 * 99 * 99);
        promise = 28;
        is("plain", plain("size 5 5;" + ("price" + times(5, 1) + ";").repeat(4) + "price 1 1 1 1 2;village a n sees 1 1 1 1 1;"), 25);
        is("the last CELL is dearer", x.cheapest(1), 5);
        townIs(0, 0, 0, 0, 0, 0, 0, 0, 0, 0, 0, 0, 0, 0, 0, 0, 0, 0, 0, 1, 1, 1, 1, 1, 0);
        is("plain", plain("size 5 5;" + ("price" + times(5, 9) + ";").repeat(4) + "price 9 9 9 9 8;village a n sees 1 1 1 1 1;"), 25);
        is("the last CELL is cheaper", x.cheapest(1), 44);
        townIs(0, 0, 0, 0, 0, 0, 0, 0, 0, 0, 0, 0, 0, 0, 0, 0, 0, 0, 0, 0, 1, 1, 1, 1, 1);
        promise = 27;
        is("plain", plain("size 2 1;most 5 0;least 5 0;village a s sees 5 0;"), 2);
        is("no room", x.largest(1), 0);
        promise = 28;
        town(9, 9);
        is("no room", x.cheapest(1), 0);
        townIs(5, 0);
    }

    private static void cheapestOfSeveral() {
        begin(28);
        String ones = "village a s sees 1 1;village b w sees 1 1;";
        is("plain", plain("size 2 2;" + ones), 4);
        is("CELL 0 is LOW, if it may be", x.cheapest(3), 2);
        townIs(0, 1, 1, 0);
        is("plain", plain("size 2 2;price 1 2;" + ones), 4);
        is("but for the STONE", x.cheapest(3), 2);
        townIs(1, 0, 0, 1);
        is("plain", plain("size 2 2;price 1 2;price 1 2;" + ones), 4);
        is("as much by both", x.cheapest(3), 3);
        townIs(0, 1, 1, 0);
        is("plain", plain("size 3 1;village a w sees 1;"), 3);
        is("then CELL 1", x.cheapest(1), 1);
        townIs(0, 0, 1);
        is("plain", plain("size 3 1;price 1 1 2;village a w sees 1;"), 3);
        is("then CELL 1, but for the STONE", x.cheapest(1), 1);
        townIs(0, 1, 0);
        is("plain", plain("size 2 2;most 1 0;" + ones), 4);
        is("where it may not", x.cheapest(3), 2);
        townIs(1, 0, 0, 1);
        is("plain", plain("size 3 1;least 1 3 2;village a w sees 3;"), 3);
        is("a CAP that is the LEAST", x.cheapest(1), 0);
        townIs(1, 3, 2);
        is("plain", plain("size 3 1;least 1 2 2;price 1 3 2;village a w sees 3;"), 3);
        is("2 by one, or 1 by two: CELL 0 is LOW", x.cheapest(1), 2);
        townIs(1, 2, 3);
        is("plain", plain("size 3 1;least 0 2 2;price 1 3 4;village a w sees 3;"), 3);
        is("3 by CELL 0, or by CELL 1", x.cheapest(1), 3);
        townIs(0, 3, 2);
    }

    private static final String BENT =
        "size 2 2;price 9 1;least 0 0;least 0 1;village a s sees 1 1;village b w sees 1 1;village c n;";

    private static void leastLeavesTheTown() {
        begin(29);
        is("plain", plain(BENT), 4);
        town(3, 4, 5, 6);
        is("two cheap CELLS for one dear one", x.least(3), 2);
        due("2", x.top(), 2);
        due("by 11", x.bottom(), 11);
        townIs(3, 4, 5, 6);
        is("with one that does not matter", x.least(7), 2);
        promise = 28;
        is("cheapest", x.cheapest(3), 2);
        townIs(0, 1, 1, 1);
        promise = 27;
        is("largest", x.largest(7), 11);
        townIs(1, 1, 1, 1);
        due("these tell no FRACTION", x.bottom(), 11);
        promise = 29;
        is("plain", plain("size 1 1;most 0;village a s sees 0;"), 1);
        is("the LARGEST has no STONE", x.least(1), 0);
        due("told latest", x.top(), 2);
        due("told latest", x.bottom(), 11);
        is("plain", plain("size 1 1;most 1;"), 1);
        is("0 of 1", x.least(0), 0);
        due("0", x.top(), 0);
        due("by 1", x.bottom(), 1);
    }

    // ---- promise 30

    private static void courts() {
        begin(30);
        is("plain", plain(BENT), 4);
        is("one dear CELL for two cheap ones", x.courts(3), 3);
        is("all of them", x.courts(0), 4);
        is("all of them", x.courts(4), 4);
        is("plain", plain("size 5 1;village a s sees 1 1 1 1 1;village b s sees 0 0 0 0 0;"), 5);
        is("none of them", x.courts(1), 0);
        is("all of them", x.courts(2), 5);
        is("plain", plain("size 5 1;least 1 0 1 0 1;village a s sees 1 1 1 1 1;"), 5);
        is("those whose CAP is the LEAST", x.courts(1), 3);
        is("plain", plain("size 5 5;village a n sees 1 1 1 1 1;village b e sees 1 1 1 1 1;"), 25);
        is("all but five", x.courts(3), 20);
        is("plain", plain("size 5 5;village a ne sees 1 1 1 1 1 1 1 1 1;"), 25);
        is("all but nine", x.courts(1), 16);
        town(1, 1, 1, 1, 1);
        is("the TOWN does not matter", x.courts(0), 25);
        is("and stays", x.height(4), 1);
    }

    // ---- promise 31

    private static void sixteenStrips() {
        begin(31);
        String ones = times(7, 1);
        is("plain", plain("size 5 3;most" + times(5, 1) + ";most" + times(5, 1) + ";most" + times(5, 1) + ";village a ne sees" + ones
            + ";village b e sees 1 1 1;village c w sees 1 1 1;village d e sees 1 1 1;village f sw sees" + ones + ";village g sw;"), 15);
        is("7", x.towns(1), 3 * 7 * 7 * 7 * 3);
        is("14, the same strips", x.towns(17), 3 * 7 * 7 * 7 * 3);
        is("3", x.towns(2), 31 * 31 * 31);
        is("9 of three VILLAGES", x.towns(14), 31 * 31 * 31);
        int both = rowsAndSlants();
        is("10", x.towns(3), both);
        is("13", x.towns(7), both);
        is("16", x.towns(15), both);
        is("16 and one without a SKYLINE", x.towns(47), both);
        no("17, though two of them are the same", () -> x.towns(19), 7);
        no("17", () -> x.towns(51), 7);
        no("all 23", () -> x.towns(63), 7);
        no("2 ahead of 7", () -> x.towns(64), 2);
        is("none", x.towns(32), 1 << 15);
        is("plain", plain("size 5 3;village a ne sees" + ones + ";village b sw sees" + times(7, 2) + ";village c w sees 1 1 1;"), 15);
        is("14 that can't be", x.towns(3), 0);
        no("17 that can't be", () -> x.towns(7), 7);
        is("plain", plain("size 5 4;village a ne sees" + times(8, 0) + ";village b sw sees" + times(8, 0) + ";"), 20);
        is("16", x.towns(3), 1);
        is("plain", plain("size 5 5;village a n sees" + times(5, 0) + ";village b n sees" + times(5, 0) + ";village c n sees"
            + times(5, 0) + ";village d n sees" + times(5, 0) + ";"), 25);
        is("15", x.towns(7), 1);
        no("20", () -> x.towns(15), 7);
    }

    /** Zeros and ones on 5 by 3 CELLS with a one in each row and in each slant, counted one by one. */
    private static int rowsAndSlants() {
        int count = 0;
        for (int set = 0; set < 1 << 15; set++) {
            int rows = 0;
            int slants = 0;
            for (int c = 0; c < 15; c++) {
                rows |= (set >> c & 1) << c / 5;
                slants |= (set >> c & 1) << c / 5 + c % 5;
            }
            count += rows == 7 && slants == 127 ? 1 : 0;
        }
        return count;
    }

    /** Ones to be seen from every choice of SIDES, on every size; corners that stand alone are seen as ones, or as 0. */
    private static void allStripsOfAtMostSixteen() {
        begin(31);
        for (int size = 0; size < 25; size++) {
            for (int sides = 0; sides < 16; sides++) {
                townsOfOnes(1 + size % 5, 1 + size / 5, sides, 1);
                townsOfOnes(1 + size % 5, 1 + size / 5, sides, 0);
            }
        }
    }

    private static void townsOfOnes(int w, int h, int sides, int corners) {
        StringBuilder text = new StringBuilder("size " + w + " " + h + ";" + ("most" + times(w, 1) + ";").repeat(h));
        List<Integer> ones = new ArrayList<>();
        int cells = (1 << w * h) - 1;
        int strips = 0;
        for (int k = 0; k < 4; k++) {
            if ((sides >> k & 1) == 1) {
                text.append("village v").append((char) ('a' + k)).append(' ').append(SIDES[k]).append(" sees");
                for (int strip : stripsFrom(k, w, h)) {
                    boolean corner = k % 2 == 1 && Integer.bitCount(strip) == 1;
                    text.append(' ').append(corner ? corners : 1);
                    cells &= corner && corners == 0 ? ~strip : -1;
                    strips++;
                    if (!corner || corners == 1) {
                        ones.add(strip);
                    }
                }
                text.append(';');
            }
        }
        is(text.toString(), plain(text.toString()), w * h);
        int all = (1 << Integer.bitCount(sides)) - 1;
        if (strips > 16) {
            no(text + ": too many strips", () -> x.towns(all), 7);
        } else {
            is(text.toString(), x.towns(all), onesInEach(ones, cells));
        }
    }

    /** The CELLS of each strip from n, ne, e or se, as sets, in their order. */
    private static List<Integer> stripsFrom(int side, int w, int h) {
        List<Integer> strips = new ArrayList<>();
        for (int key = 8; key >= -8; key--) {
            int strip = 0;
            for (int c = 0; c < w * h; c++) {
                int[] keys = {c % w, c % w + c / w, c / w, c / w - c % w};
                strip |= keys[side] == key ? 1 << c : 0;
            }
            if (strip != 0) {
                strips.add(strip);
            }
        }
        return strips;
    }

    /** All zeros and ones, less those in which a strip has no one, and so on by turns. */
    private static long onesInEach(List<Integer> strips, int cells) {
        long count = 0;
        for (int set = 0; set < 1 << strips.size(); set++) {
            int zeros = 0;
            for (int k = 0; k < strips.size(); k++) {
                zeros |= (set >> k & 1) == 1 ? strips.get(k) : 0;
            }
            long ways = 1L << Integer.bitCount(cells & ~zeros);
            count += Integer.bitCount(set) % 2 == 0 ? ways : -ways;
        }
        return count % 1000007;
    }

    private static void whatIsLeft() {
        begin(31);
        is("plain", plain("size 3 1;"), 3);
        is("below 1,000,007", x.towns(0), 1000000);
        is("plain", plain("size 4 1;"), 4);
        is("what is left of 100,000,000", x.towns(0), 100000000 - 99 * 1000007);
        is("plain", plain("size 4 1;" + row("least", 91, 18, 3, 0) + "village a w sees 99;"), 4);
        is("of 1,000,008", x.towns(1), 1);
        is("plain", plain("size 5 1;" + row("least", 98, 90, 21, 12, 11) + "village a w sees 99;"), 5);
        is("of 7,000,048", x.towns(1), 1000006);
        is("plain", plain("size 5 1;" + row("least", 98, 53, 37, 13, 12) + "village a w sees 99;"), 5);
        is("of 24,000,168, though there are TOWNS", x.towns(1), 0);
        is("there are", x.can(1), 1);
        is("plain", plain("size 5 5;"), 25);
        long left = 1;
        for (int c = 0; c < 25; c++) {
            left = left * 100 % 1000007;
        }
        is("of a hundred 25 times over", x.towns(0), left);
        is("plain", plain("size 1 1;most 4;least 5;village a w sees 5;"), 1);
        is("LEAST above the MOST", x.towns(0), 0);
        is("LEAST above the MOST", x.towns(1), 0);
        is("plain", plain("size 1 1;most 5;least 5;village a w sees 5;"), 1);
        is("LEAST as the MOST", x.towns(1), 1);
        is("plain", plain("size 2 1;most 5 3;least 1 1;village a w sees 5;village b w sees 3;village c w sees 1;"), 2);
        is("1 by 3", x.towns(1), 3);
        is("3 by 3 less 2 by 2", x.towns(2), 5);
        is("all at the LEAST", x.towns(4), 1);
        is("by none", x.towns(0), 15);
    }

    // ---- promise 32

    private static void sure() {
        begin(32);
        is("plain", plain(BENT), 4);
        int[][] due = {{0, 1}, {0, 1}, {0, 1}, {1, 1}};
        for (int c = 0; c < 4; c++) {
            is("the least", x.sure(3, c, 0), due[c][0]);
            is("the greatest", x.sure(3, c, 1), due[c][1]);
            is("by none: the LEAST", x.sure(0, c, 0), c == 3 ? 1 : 0);
            is("by none: the MOST", x.sure(4, c, 1), 99);
            int cell = c;
            for (int what : new int[] {-1, 2, MIN, MAX}) {
                no("what", () -> x.sure(3, cell, what), 5);
            }
        }
        is("plain", plain("size 2 1;most 5 4;least 0 4;village a w sees 5;village b w sees 4;"), 2);
        is("none but CELL 0 can", x.sure(1, 0, 0), 5);
        is("none but CELL 0 can", x.sure(1, 0, 1), 5);
        is("CELL 1 does by its LEAST", x.sure(2, 0, 0), 0);
        is("up to the CAP", x.sure(2, 0, 1), 4);
        is("LEAST and MOST", x.sure(1, 1, 0), 4);
        is("LEAST and MOST", x.sure(1, 1, 1), 4);
        is("plain", plain("size 2 1;village a w sees 0;village b w sees 99;"), 2);
        is("0", x.sure(1, 0, 1), 0);
        is("one of two is enough", x.sure(2, 1, 0), 0);
        is("99", x.sure(2, 1, 1), 99);
    }

    // ---- promise 33

    private static void struck() {
        begin(33);
        is("plain", plain("size 1 1;"), 1);
        is("none to strike", x.struck(), 0);
        is("plain", plain("size 1 1;most 4;least 5;"), 1);
        no("not even without any", () -> x.struck(), 9);
        is("plain", plain("size 1 1;most 4;least 5;village a n sees 5;village b n sees 4;village c n;"), 1);
        no("not even without any", () -> x.struck(), 9);
        String six = "size 1 1;";
        for (int v = 0; v < 6; v++) {
            six += "village v" + (char) ('a' + v) + " n sees " + v + ";";
        }
        is("plain", plain(six), 1);
        is("five of six: the least as a number", x.struck(), 31);
        is("plain", plain(six.replace("size 1 1;", "size 1 1;least 3;most 3;")), 1);
        is("all but the one that can be", x.struck(), 63 - 8);
        is("plain", plain(six.replace("size 1 1;", "size 1 1;least 9;")), 1);
        is("all six", x.struck(), 63);
        is("plain", plain("size 1 1;village a n sees 1;village b n;village c n sees 2;village d n sees 2;village f n;village g n sees 1;"), 1);
        is("two and two: the least", x.struck(), 4 + 8);
        is("plain", plain("size 1 1;village a n;village b n sees 2;village c n sees 2;village d n sees 1;"), 1);
        is("one rather than two", x.struck(), 8);
        is("plain", plain("size 2 1;village a s sees 1 2;village b n sees 2 1;village c w sees 2;"), 2);
        is("none, they CAN be", x.struck(), 0);
    }

    /** Six VILLAGES with nine strips each: as many promises as there can be. */
    private static void fullPlain() {
        begin(25);
        String six = "size 5 5;";
        for (int v = 0; v < 6; v++) {
            six += "village v" + (char) ('a' + v) + " " + SIDES[v * 2 % 8 + 1] + " sees" + times(9, 1) + ";";
        }
        is("plain", plain(six), 25);
        is("all CAN be KEPT", x.can(63), 1);
        promise = 27;
        is("all at 1", x.largest(63), 25);
        promise = 22;
        no("all is SEEN as promised", () -> x.otherwise(0), 8);
        promise = 28;
        // the four corners, each alone in a slant, and 2 and 4 CELLS for the slants of even and of odd sums that are left
        is("ten", x.cheapest(63), 4 + 2 + 4);
        promise = 30;
        is("all others", x.courts(63), 15);
        promise = 33;
        is("none to strike", x.struck(), 0);
        promise = 42;
        is("highest", x.highest(), 99);
        promise = 41;
        fill(0, 1, 1, 1, 1, 1, 1, 1, 1, 1);
        is("like", x.like(0, 9), 1);
        promise = 35;
        is("the middle is none of them", x.instead(12), 10);
        no("a corner stands alone", () -> x.instead(24), 9);
        is("plain", plain(six.substring(0, six.length() - 2) + "2;"), 25);
        promise = 26;
        is("the last strip of the last VILLAGE", x.barred(63, 1) * 9 + x.barred(63, 2), 53);
        promise = 33;
        is("it alone is struck", x.struck(), 32);
        promise = 22;
        x.tray(0, 0, 25);
        for (int c = 0; c < 25; c++) {
            x.write(0, c, 1);
        }
        is("all at 1", x.buildAll(0));
        is("the last VILLAGE", x.otherwise(0), 5);
        is("the last strip", x.otherwise(1), 8);
    }

    public static void main(String[] args) {
        fullPlain();
        setsWithOthers();
        noSuchCell();
        caps();
        canBeOrNot();
        firstBarred();
        cannotBe();
        largestAndCheapest();
        cheapestOfSeveral();
        leastLeavesTheTown();
        courts();
        sixteenStrips();
        allStripsOfAtMostSixteen();
        whatIsLeft();
        sure();
        struck();
        end();
    }
}
