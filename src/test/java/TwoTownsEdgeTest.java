/** Boundaries of promises 34 to 42: one tower taken down, two TOWNS, a tenth VILLAGE, an order of building. */
public final class TwoTownsEdgeTest extends Bench {
    private static final int[] NO_TRAYS = {-1, 4, MIN, MAX};
    private static final long[] NO_HEIGHTS = {-1, 100, 1L << 32, Long.MIN_VALUE, Long.MAX_VALUE};

    /** So many numbers of 64 bits, of which one is given. */
    private static void fillBut(int tray, int many, int place, long number) {
        x.tray(tray, 3, many);
        x.write(tray, place, number);
    }

    // ---- promise 34

    private static void down() {
        begin(34);
        no("no CELL at all", () -> x.down(0), 2);
        is("plain", plain("size 2 2;least 2 0;village a s;village b s sees 9 9;village c n;village d ne;village f w;village g sw;"), 4);
        for (int cell : new int[] {-1, 4, MIN, MAX}) {
            no("no such CELL", () -> x.down(cell), 2);
        }
        is("at the LEAST", x.down(0), 0);
        is("at the LEAST", x.down(3), 0);
        town(3, 0, 0, 0);
        is("all six see it, those at one SIDE each", x.down(0), 6);
        is("it stays", x.height(0), 3);
        town(1, 0, 0, 0);
        is("below the LEAST it is not raised", x.down(0), 0);
        town(2, 1, 0, 0);
        is("at the LEAST", x.down(0), 0);
        town(3, 0, 3, 0);
        is("hidden from s and n by one as high", x.down(0), 3);
        is("the other one likewise", x.down(2), 3);
        town(99, 99, 99, 98);
        is("from ne and sw alone, in which it is the last", x.down(0), 2);
        is("not the highest", x.down(3), 2);
        is("plain", plain("size 2 1;"), 2);
        town(9, 9);
        is("nobody sees it", x.down(0), 0);
        is("plain", plain("size 2 1;least 3 5;village a w;"), 2);
        town(9, 1);
        is("down to 3, which is above the other", x.down(0), 1);
        town(9, 9);
        is("the other is as high", x.down(0), 0);
    }

    // ---- promise 35

    private static void instead() {
        begin(35);
        no("no CELL at all", () -> x.instead(0), 2);
        is("plain", plain("size 2 1;most 5 5;least 1 1;price 2 3;village a w sees 9;"), 2);
        for (int cell : new int[] {-1, 2, MIN, MAX}) {
            no("no such CELL", () -> x.instead(cell), 2);
        }
        is("all at the LEAST", x.instead(0), 0);
        town(5, 1);
        is("the other at its MOST", x.instead(0), 4 * 3);
        is("itself not needed", x.instead(1), 4 * 2);
        townIs(5, 1);
        town(6, 1);
        no("above the MOST of the other", () -> x.instead(0), 9);
        no("above the MOST of all", () -> x.instead(1), 9);
        town(0, 0);
        no("below the LEAST of all", () -> x.instead(0), 9);
        town(1, 0);
        is("as the LEAST", x.instead(1), 0);
        is("plain", plain("size 2 1;most 9 4;least 0 4;village a w;"), 2);
        town(4, 0);
        is("the other does by its LEAST", x.instead(0), 0);
        is("a CELL below its LEAST is brought to it", x.instead(1), 0);
        town(5, 0);
        no("the MOST of the other is one less", () -> x.instead(0), 9);
        is("CELL 0 itself", x.instead(1), 5);
        town(3, 0);
        no("the LEAST of the other is one more", () -> x.instead(0), 9);
        is("plain", plain("size 2 1;least 3 4;"), 2);
        town(99, 99);
        is("no VILLAGE", x.instead(0), 0);
        is("plain", plain("size 2 1;most 9 3;least 0 4;"), 2);
        no("LEAST above the MOST", () -> x.instead(0), 9);
        no("LEAST above the MOST", () -> x.instead(1), 9);
    }

    private static void insteadSeenByAll() {
        begin(35);
        is("plain", plain("size 2 2;village a s sees 0 0;village b w;"), 4);
        town(5, 1, 1, 5);
        is("those with no SKYLINE, too; what was promised does not matter", x.instead(0), 10);
        is("the other way", x.instead(1), 10);
        town(5, 1, 1, 1);
        no("5 is seen by that CELL alone", () -> x.instead(0), 9);
        is("1 by another", x.instead(3), 5 + 1 + 1);
        is("plain", plain("size 2 2;village a s sees 0 0;village b s;"), 4);
        town(5, 1, 1, 1);
        is("by the CELL behind it", x.instead(0), 5 + 1);
        is("one of its column", x.instead(3), 5 + 1);
    }

    // ---- promise 36

    private static void apartRefused() {
        begin(36);
        no("no VILLAGE at all", () -> x.apart(0, 1, 0), 2);
        is("plain", plain("size 2 2;village a s;village b w sees 1 1;"), 4);
        for (int tray : NO_TRAYS) {
            no("no such TRAY", () -> x.apart(tray, 0, 0), 1);
            no("no such TRAY", () -> x.apart(0, tray, 0), 1);
            no("1 ahead of 2", () -> x.apart(tray, 0, 2), 1);
            no("1 ahead of 2", () -> x.apart(0, tray, 2), 1);
        }
        for (int village : new int[] {-1, 2, 6, MIN, MAX}) {
            no("2 ahead of 3", () -> x.apart(0, 1, village), 2);
        }
        no("MISSING", () -> x.apart(0, 1, 0), 3);
        is("three", x.tray(0, 0, 3));
        no("3 of the other ahead of 4 of the one", () -> x.apart(0, 1, 0), 3);
        no("3 of the one ahead of 4 of the other", () -> x.apart(1, 0, 0), 3);
        fillBut(1, 4, 0, 100);
        no("4 of the one ahead of 5 of the other", () -> x.apart(0, 1, 0), 4);
        no("4 of the other ahead of 5 of the one", () -> x.apart(1, 0, 0), 4);
        no("4 of both", () -> x.apart(0, 0, 0), 4);
        is("four", x.tray(0, 0, 4));
        for (long height : NO_HEIGHTS) {
            for (int place = 0; place < 4; place++) {
                fillBut(1, 4, place, height);
                no("5 of the other", () -> x.apart(0, 1, 0), 5);
                no("5 of the one", () -> x.apart(1, 0, 0), 5);
            }
        }
        for (int village : new int[] {-1, 2}) {
            no("2 ahead of 5", () -> x.apart(0, 1, village), 2);
        }
        fillBut(1, 5, 4, 100);
        no("a fifth number does not matter", () -> x.apart(0, 1, 0), 8);
        no("of itself", () -> x.apart(1, 1, 1), 8);
    }

    private static void apart() {
        begin(36);
        is("plain", plain("size 2 2;village a s;village b w;village c ne;"), 4);
        is("of unlike sorts", x.tray(0, 0, 4) && x.tray(1, 3, 4));
        is("0 and 99", x.write(0, 3, 99));
        is("the last strip from s", x.apart(0, 1, 0), 1);
        is("the last strip from w", x.apart(1, 0, 1), 1);
        is("the first strip from ne", x.apart(0, 1, 2), 0);
        is("and another height", x.write(1, 0, 1));
        is("the first of two", x.apart(0, 1, 0), 0);
        is("the first of two", x.apart(0, 1, 1), 0);
        fill(0, 5, 6, 1, 2);
        fill(1, 1, 2, 5, 6);
        no("not by it", () -> x.apart(0, 1, 0), 8);
        is("by another", x.apart(0, 1, 1), 0);
        town(9, 9, 9, 9);
        is("the TOWN does not matter", x.apart(0, 1, 1), 0);
        is("plain", plain("size 5 5;village a se;"), 25);
        is("twenty-five", x.tray(0, 0, 25) && x.tray(1, 0, 25) && x.write(1, 4, 1));
        is("the ninth strip", x.apart(0, 1, 0), 8);
        is("twenty-four", x.tray(1, 0, 24));
        no("one too few", () -> x.apart(0, 1, 0), 4);
    }

    // ---- promise 37

    private static void watchersRefused() {
        begin(37);
        is("plain", plain("size 5 3;village a s;"), 15);
        for (int tray : NO_TRAYS) {
            no("1 ahead of 5", () -> x.watchers(tray, 5), 1);
            no("no such TRAY", () -> x.watchers(tray, 2), 1);
        }
        no("3 ahead of 5", () -> x.watchers(0, 5), 3);
        is("none", x.tray(0, 0, 0));
        for (int many : new int[] {-1, 0, 1, 5, MIN, MAX}) {
            no("5 ahead of 4", () -> x.watchers(0, many), 5);
        }
        for (int many = 2; many <= 4; many++) {
            int rows = many;
            fillBut(0, 15 * rows - 1, 0, 100);
            no("one number too few, ahead of a height", () -> x.watchers(0, rows), 4);
            for (long height : NO_HEIGHTS) {
                fillBut(0, 15 * rows, 15 * rows - 1, height);
                no("a height", () -> x.watchers(0, rows), 5);
                fillBut(0, 15 * rows, 0, height);
                no("a height", () -> x.watchers(0, rows), 5);
            }
        }
        fillBut(0, 60, 59, 100);
        no("all alike", () -> x.watchers(0, 3), 9);
        fillBut(0, 60, 30, 99);
        x.write(0, 45, 98);
        x.write(0, 15, 97);
        is("four rows of fifteen: sixty numbers", x.watchers(0, 4), 1);
        x.write(0, 45, 99);
        is("three of them", x.watchers(0, 3), 1);
        no("the fourth like the third", () -> x.watchers(0, 4), 9);
        is("plain", plain("size 4 4;village a s;"), 16);
        no("64 numbers can't be there", () -> x.watchers(0, 4), 4);
        is("48 can", x.tray(0, 0, 60) && x.write(0, 0, 1) && x.write(0, 16, 2) && x.watchers(0, 3) == 1);
        is("plain", plain("size 1 1;"), 1);
        is("two unlike rows", x.write(0, 1, 1));
        no("but no VILLAGE", () -> x.watchers(0, 2), 9);
    }

    private static void fewestWatchers() {
        begin(37);
        is("plain", plain("size 2 2;village a s;village b s;village c w;village d n sees 1 1;village f w;village g ne;"), 4);
        fill(0, 1, 0, 0, 0, 0, 0, 1, 0);
        is("not by s: the first from w", x.watchers(0, 2), 4);
        fill(0, 1, 0, 0, 0, 0, 1, 0, 0);
        is("not by w: the first from s", x.watchers(0, 2), 1);
        fill(0, 1, 0, 0, 0, 0, 0, 0, 1);
        is("by all: the least", x.watchers(0, 2), 1);
        fill(0, 1, 0, 0, 1, 0, 1, 1, 0);
        is("by ne alone", x.watchers(0, 2), 32);
        fill(0, 1, 0, 0, 0, 0, 0, 1, 0, 0, 1, 0, 0);
        is("no single one: of several couples the least", x.watchers(0, 3), 5);
        fill(0, 1, 0, 0, 0, 0, 0, 1, 0, 0, 0, 0, 1);
        is("all three by ne alone rather than two", x.watchers(0, 3), 32);
        fill(0, 1, 0, 0, 0, 0, 0, 0, 0, 1, 0, 0, 0);
        no("the first and the last, which are alike", () -> x.watchers(0, 3), 9);
        is("the first two of them", x.watchers(0, 2), 1);
        fill(0, 1, 0, 0, 0, 0, 1, 0, 0, 0, 0, 1, 0, 0, 0, 0, 1);
        is("four", x.watchers(0, 4), 5);
        town(9, 9, 9, 9);
        is("the TOWN does not matter", x.watchers(0, 4), 5);
    }

    // ---- promise 38

    private static void tenth() {
        begin(38);
        for (int tray : NO_TRAYS) {
            no("1 ahead of 5", () -> x.tenth(tray, 0), 1);
        }
        no("3 ahead of 5", () -> x.tenth(0, 0), 3);
        is("none", x.tray(0, 0, 0));
        for (int many : new int[] {-1, 0, 10, 60, MIN, MAX}) {
            no("5 ahead of 4", () -> x.tenth(0, many), 5);
        }
        for (int many = 1; many <= 9; many++) {
            int told = many;
            fillBut(0, many - 1, 0, 100);
            no("4 ahead of a height", () -> x.tenth(0, told), 4);
            for (long height : NO_HEIGHTS) {
                fillBut(0, many, many - 1, height);
                no("a height", () -> x.tenth(0, told), 5);
            }
            fillBut(0, many + 1, many, 100);
            is("no PLAIN, no SIDE", x.tenth(0, told), 0);
        }
    }

    private static void tenthBySides() {
        begin(38);
        is("a tray", x.tray(0, 0, 10));
        for (int w = 1; w <= 5; w++) {
            for (int h = 1; h <= 5; h++) {
                is("plain", plain("size " + w + " " + h + ";village a n sees" + times(w, 9) + ";"), w * h);
                for (int many = 1; many <= 9; many++) {
                    int due = (many == w ? 1 + 16 : 0) | (many == h ? 4 + 64 : 0) | (many == w + h - 1 ? 2 + 8 + 32 + 128 : 0);
                    is("of just as many strips", x.tenth(0, many), due);
                }
            }
        }
        is("plain", plain("size 2 2;"), 4);
        town(99, 0, 0, 0);
        fill(0, 99, 0);
        is("from s and w", x.tenth(0, 2), 16 + 64);
        fill(0, 0, 99);
        is("from n and e", x.tenth(0, 2), 1 + 4);
        fill(0, 0, 0, 99);
        is("from ne", x.tenth(0, 3), 2);
        fill(0, 99, 0, 0);
        is("from sw", x.tenth(0, 3), 32);
        fill(0, 0, 99, 0);
        is("from se and nw", x.tenth(0, 3), 8 + 128);
        fill(0, 0, 98);
        is("from none", x.tenth(0, 2), 0);
    }

    // ---- promises 39 and 40

    private static void orderRefused() {
        begin(39);
        for (int tray : NO_TRAYS) {
            no("no such TRAY", () -> x.order(tray), 1);
        }
        no("MISSING", () -> x.order(0), 3);
        is("plain", plain("size 5 5;village a s;village b w;"), 25);
        fillBut(0, 24, 0, 100);
        no("4 ahead of 5", () -> x.order(0), 4);
        for (long height : NO_HEIGHTS) {
            fillBut(0, 25, 24, height);
            no("a height", () -> x.order(0), 5);
        }
        x.tray(0, 0, 25);
        for (int c = 0; c < 13; c++) {
            x.write(0, c, 1);
        }
        no("thirteen, ahead of 9", () -> x.order(0), 7);
        x.write(0, 3, 100);
        no("5 ahead of 7", () -> x.order(0), 5);
        x.write(0, 3, 0);
        no("twelve that are seen", () -> x.order(0), 9);
        promise = 40;
        no("no order yet", () -> x.orderAt(0), 8);
        promise = 39;
        fillBut(0, 26, 25, 100);
        is("a 26th number does not matter", x.order(0), 0);
        promise = 40;
        no("an order of none", () -> x.orderAt(0), 8);
    }

    private static void twelveCells() {
        begin(39);
        is("plain", plain("size 5 5;most" + times(5, 1) + ";least" + times(5, 1) + ";"), 25);
        x.tray(0, 0, 25);
        for (int c = 0; c < 25; c++) {
            x.write(0, c, c < 5 ? 1 : 0);
        }
        for (int k = 0; k < 12; k++) {
            x.write(0, 2 * k, 99);
            is("so many CELLS", x.order(0), k + 1);
            promise = 40;
            is("the last one", x.orderAt(k), 2 * k);
            int behind = k + 1;
            no("none behind it", () -> x.orderAt(behind), 8);
            promise = 39;
        }
        x.write(0, 24, 99);
        no("thirteen", () -> x.order(0), 7);
        promise = 40;
        for (int k = 0; k < 12; k++) {
            is("those of before", x.orderAt(k), 2 * k);
        }
        for (int k : new int[] {-1, 12, 25, MIN, MAX}) {
            no("none such", () -> x.orderAt(k), 8);
        }
        promise = 39;
        x.write(0, 24, 0);
        is("twelve, one of them", x.order(0), 12);
        is("0 below the LEAST, 99 above the MOST", x.build(0, 99));
        x.write(0, 1, 0);
        is("twelve, another", x.order(0), 12);
        promise = 40;
        is("the first", x.orderAt(0), 1);
        promise = 39;
        is("the TOWN stays", x.height(1), 1);
    }

    private static void nobodySeesOtherwise() {
        begin(39);
        is("plain", plain("size 3 1;village a w;village b e sees 0;"), 3);
        town(5, 0, 0);
        fill(0, 0, 5, 0);
        is("order", x.order(0), 2);
        orderIs(1, 0);
        fill(0, 4, 4, 5);
        is("order", x.order(0), 3);
        orderIs(1, 2, 0);
        fill(0, 4, 0, 0);
        no("one sees otherwise at the end", () -> x.order(0), 9);
        orderIs(1, 2, 0);
        fill(0, 6, 0, 0);
        no("one sees otherwise at the end", () -> x.order(0), 9);
        fill(0, 5, 0, 0);
        is("none differs", x.order(0), 0);
        town(5, 5, 5);
        fill(0, 0, 0, 5);
        is("the least each time", x.order(0), 2);
        orderIs(0, 1);
        fill(0, 0, 0, 0);
        no("the last may not go", () -> x.order(0), 9);
        is("plain", plain("size 3 1;village a s;"), 3);
        fill(0, 0, 0, 1);
        no("each stands alone", () -> x.order(0), 9);
        is("told before another PLAIN", x.orderAt(1), 1);
        is("mark", x.mark(), 1);
        fill(0, 0, 0, 0);
        is("none differs", x.order(0), 0);
        is("back", x.back(), 0);
        promise = 40;
        no("a MARK keeps none", () -> x.orderAt(0), 8);
    }

    private static void orderIs(int... cells) {
        int of = promise;
        promise = 40;
        for (int k = 0; k < cells.length; k++) {
            is("the CELL " + k, x.orderAt(k), cells[k]);
        }
        no("none behind the last", () -> x.orderAt(cells.length), 8);
        promise = of;
    }

    // ---- promise 41

    private static void likeRefused() {
        begin(41);
        for (int tray : NO_TRAYS) {
            no("1 ahead of 5", () -> x.like(tray, 0), 1);
        }
        no("3 ahead of 5", () -> x.like(0, 0), 3);
        is("none", x.tray(0, 0, 0));
        for (int many : new int[] {-1, 0, 10, 60, MIN, MAX}) {
            no("5 ahead of 4", () -> x.like(0, many), 5);
        }
        for (int many = 1; many <= 9; many++) {
            int told = many;
            fillBut(0, many - 1, 0, 100);
            no("4 ahead of a height", () -> x.like(0, told), 4);
            for (long height : NO_HEIGHTS) {
                fillBut(0, many, many - 1, height);
                no("5 ahead of 8", () -> x.like(0, told), 5);
            }
            fillBut(0, many + 1, many, 100);
            no("no VILLAGE", () -> x.like(0, told), 8);
        }
        is("plain", plain("size 3 1;village a s;village b w;"), 3);
        is("three", x.tray(0, 0, 3));
        no("one of two has not three", () -> x.like(0, 3), 9);
        no("one of two has not one", () -> x.like(0, 1), 9);
        no("neither has two", () -> x.like(0, 2), 9);
        fillBut(0, 3, 2, 100);
        no("5 ahead of 9", () -> x.like(0, 3), 5);
    }

    private static void like() {
        begin(41);
        is("plain", plain("size 2 2;most 5 3;most 1 99;least 0 0;least 0 1;village a s sees 9 9;village b w;village c s;"), 4);
        int[][] rows = {{5, 99}, {5, 1}, {5, 3}, {5, 4}, {6, 1}, {1, 1}, {0, 1}, {1, 0}, {0, 0}, {99, 99}, {4, 98}};
        int[] due = {1, 1, 1, 1, 0, 1, 1, 0, 0, 0, 1};
        for (int k = 0; k < rows.length; k++) {
            fill(0, rows[k]);
            is("like " + rows[k][0] + " " + rows[k][1], x.like(0, 2), due[k]);
        }
        is("what was promised stays", x.promised(0, 1), 9);
        is("plain", plain("size 5 5;village a ne;village b sw;"), 25);
        fill(0, 1, 2, 3, 4, 5, 4, 3, 2, 1);
        is("nine, the same from both", x.like(0, 9), 1);
        fill(0, 1, 2, 3, 4, 5, 4, 3, 2, 0);
        is("nine, not the same", x.like(0, 9), 0);
        is("plain", plain("size 1 1;least 5;most 5;village a ne;"), 1);
        for (int height : new int[] {4, 5, 6}) {
            fill(0, height);
            is("one", x.like(0, 1), height == 5 ? 1 : 0);
        }
    }

    // ---- promise 42

    private static void highest() {
        begin(42);
        no("no PLAIN", () -> x.highest(), 8);
        is("plain", plain("size 2 2;"), 4);
        no("no VILLAGE", () -> x.highest(), 8);
        is("plain", plain("size 2 2;village a s sees 1 1;"), 4);
        is("99, whatever was promised", x.highest(), 99);
        is("plain", plain("size 2 2;most 0 0;most 0 0;village a s;"), 4);
        is("0", x.highest(), 0);
        is("plain", plain("size 2 2;most 0 7;most 3 0;least 0 7;village a s;"), 4);
        no("a LEAST above the lowest strip", () -> x.highest(), 8);
        is("plain", plain("size 2 2;most 0 7;most 3 0;least 0 3;village a s;"), 4);
        is("a LEAST as high as it", x.highest(), 3);
        is("plain", plain("size 2 2;most 0 7;most 3 0;village a s;village b ne;"), 4);
        is("the corner is 0", x.highest(), 0);
        is("plain", plain("size 2 2;most 99 99;most 99 98;village a s;village b w;"), 4);
        is("99 in each strip", x.highest(), 99);
        is("plain", plain("size 2 2;most 99 99;most 99 98;village a nw;village b n;village c ne;"), 4);
        is("98 in one", x.highest(), 98);
        is("plain", plain("size 1 1;most 5;least 6;village a n;"), 1);
        no("LEAST above the MOST", () -> x.highest(), 8);
        is("plain", plain("size 1 1;most 5;least 5;village a n;"), 1);
        is("LEAST as the MOST", x.highest(), 5);
        is("plain", plain("size 2 1;most 9 5;least 0 6;village a w;"), 2);
        no("LEAST above the MOST in one CELL", () -> x.highest(), 8);
    }

    public static void main(String[] args) {
        down();
        instead();
        insteadSeenByAll();
        apartRefused();
        apart();
        watchersRefused();
        fewestWatchers();
        tenth();
        tenthBySides();
        orderRefused();
        twelveCells();
        nobodySeesOtherwise();
        likeRefused();
        like();
        highest();
        end();
    }
}
