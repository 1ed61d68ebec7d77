/** Boundaries of promises 13 to 23: what is asked of a PLAIN, and of the TOWN as it is. */
public final class TownEdgeTest extends Bench {
    private static final int[] WRONG = {-1, MIN, MAX};

    // ---- promises 13 to 16

    private static void whatIsAsked() {
        begin(13);
        for (int what : new int[] {-1, 3, MIN, MAX}) {
            no("many", () -> x.many(what), 5);
        }
        is("plain", plain("size 5 4;most" + times(5, 0) + ";village a ne;village b e sees 0 99 0 99;"), 20);
        is("width", x.many(0), 5);
        is("height", x.many(1), 4);
        is("villages", x.many(2), 2);
        for (int what : new int[] {-1, 3, MIN, MAX}) {
            promise = 13;
            no("many", () -> x.many(what), 5);
            promise = 14;
            no("cell", () -> x.cell(0, what), 5);
            no("cell", () -> x.cell(19, what), 5);
            no("2 ahead of 5", () -> x.cell(20, what), 2);
            promise = 15;
            no("village", () -> x.village(1, what), 5);
            no("2 ahead of 5", () -> x.village(2, what), 2);
        }
        promise = 14;
        is("the last CELL", x.cell(19, 0), 99);
        is("the last of a row", x.cell(4, 0), 0);
        is("the first behind it", x.cell(5, 0), 99);
        for (int what = 0; what < 3; what++) {
            int asked = what;
            no("no such CELL", () -> x.cell(20, asked), 2);
            for (int cell : WRONG) {
                no("no such CELL", () -> x.cell(cell, asked), 2);
            }
        }
        promise = 15;
        for (int what = 0; what < 3; what++) {
            int asked = what;
            no("no such VILLAGE", () -> x.village(2, asked), 2);
            for (int village : WRONG) {
                no("no such VILLAGE", () -> x.village(village, asked), 2);
            }
        }
    }

    private static void sidesAndStrips() {
        begin(15);
        for (int w = 1; w <= 5; w++) {
            for (int h = 1; h <= 5; h++) {
                for (int first = 0; first < 8; first += 6) {
                    String text = "size " + w + " " + h + ";";
                    for (int v = 0; v < Math.min(6, 8 - first); v++) {
                        text += "village v" + (char) ('a' + v) + " " + SIDES[first + v] + ";";
                    }
                    is(text, plain(text), w * h);
                    for (int v = 0; v < Math.min(6, 8 - first); v++) {
                        int side = first + v;
                        is("side", x.village(v, 0), side);
                        is("strips", x.village(v, 1), side % 4 == 0 ? w : side % 4 == 2 ? h : w + h - 1);
                        is("no SKYLINE", x.village(v, 2), 0);
                    }
                }
            }
        }
    }

    private static void promises() {
        begin(16);
        is("plain", plain("size 5 5;village a ne sees 9 8 7 6 5 4 3 2 1;village b n;village c n sees 0 99 0 99 1;"), 25);
        for (int s = 0; s < 9; s++) {
            is("promised", x.promised(0, s), 9 - s);
        }
        is("a SKYLINE", x.village(0, 2), 1);
        is("none", x.village(1, 2), 0);
        is("0", x.promised(2, 0), 0);
        is("99", x.promised(2, 1), 99);
        is("the last", x.promised(2, 4), 1);
        no("no tenth strip", () -> x.promised(0, 9), 2);
        no("no sixth strip", () -> x.promised(2, 5), 2);
        no("no SKYLINE", () -> x.promised(1, 0), 8);
        no("no SKYLINE", () -> x.promised(1, 4), 8);
        no("2 ahead of 8", () -> x.promised(1, 5), 2);
        no("no such VILLAGE", () -> x.promised(3, 0), 2);
        for (int wrong : WRONG) {
            no("no such strip", () -> x.promised(0, wrong), 2);
            no("2 ahead of 8", () -> x.promised(1, wrong), 2);
            no("no such VILLAGE", () -> x.promised(wrong, 0), 2);
        }
    }

    // ---- promise 17

    private static void stripsOfSides() {
        begin(17);
        for (int w = 1; w <= 5; w++) {
            for (int h = 1; h <= 5; h++) {
                is("plain", plain("size " + w + " " + h + ";"), w * h);
                for (int c = 0; c < w * h; c++) {
                    int east = w - 1 - c % w;
                    int south = h - 1 - c / w;
                    int west = c % w;
                    int north = c / w;
                    int[] due = {east, east + south, south, west + south, west, west + north, north, east + north};
                    for (int side = 0; side < 8; side++) {
                        is("from " + SIDES[side], x.strip(side, c), due[side]);
                    }
                }
                int cells = w * h;
                no("no such CELL", () -> x.strip(0, cells), 2);
            }
        }
        for (int side : new int[] {-1, 8, MIN, MAX}) {
            no("no such SIDE", () -> x.strip(side, 0), 2);
            no("neither", () -> x.strip(side, 25), 2);
        }
        for (int cell : WRONG) {
            no("no such CELL", () -> x.strip(7, cell), 2);
        }
    }

    // ---- promises 18 to 20

    private static void heights() {
        begin(18);
        is("plain", plain("size 5 5;most" + times(5, 3) + ";least" + times(5, 99) + ";"), 25);
        is("the LEAST, though above the MOST", x.height(4), 99);
        is("the last", x.height(24), 0);
        no("no 26th", () -> x.height(25), 2);
        for (int cell : WRONG) {
            no("no such CELL", () -> x.height(cell), 2);
            no("no such CELL", () -> x.build(cell, 0), 2);
        }
        promise = 19;
        is("0, though below the LEAST", x.build(0, 0));
        is("0", x.height(0), 0);
        is("99, though above the MOST", x.build(24, 99));
        is("99", x.height(24), 99);
        for (int height : new int[] {-1, 100, MIN, MAX}) {
            no("no height", () -> x.build(24, height), 5);
            no("2 ahead of 5", () -> x.build(25, height), 2);
        }
        no("no 26th", () -> x.build(25, 0), 2);
        is("the others stay", x.height(1), 99);
        is("the others stay", x.height(23), 0);
    }

    private static void allHeights() {
        begin(20);
        is("plain", plain("size 2 2;least 1 2;least 3 4;"), 4);
        for (int tray : new int[] {-1, 4, MIN, MAX}) {
            no("no such TRAY", () -> x.buildAll(tray), 1);
        }
        no("MISSING", () -> x.buildAll(3), 3);
        is("none", x.tray(0, 3, 0));
        no("too few", () -> x.buildAll(0), 4);
        fill(0, 100, -1, 5);
        no("4 ahead of 5", () -> x.buildAll(0), 4);
        for (long height : new long[] {-1, 100, 1L << 32, Long.MIN_VALUE, Long.MAX_VALUE}) {
            for (int place = 0; place < 4; place++) {
                x.tray(0, 3, 4);
                x.write(0, place, height);
                no("no height", () -> x.buildAll(0), 5);
            }
        }
        townIs(1, 2, 3, 4);
        fill(0, 0, 99, 5, 6);
        is("just as many", x.buildAll(0));
        townIs(0, 99, 5, 6);
        fill(0, 9, 8, 7, 6, 100, -1);
        is("more do not matter", x.buildAll(0));
        townIs(9, 8, 7, 6);
        for (int sort = 0; sort < 4; sort++) {
            is("any sort", x.tray(1, sort, 4) && x.write(1, 3, 99) && x.buildAll(1));
            townIs(0, 0, 0, 99);
        }
        is("plain", plain("size 5 5;"), 25);
        x.tray(2, 0, 24);
        no("24 of 25", () -> x.buildAll(2), 4);
        x.tray(2, 0, 25);
        x.write(2, 24, 7);
        is("25 of 25", x.buildAll(2));
        is("the last", x.height(24), 7);
    }

    // ---- promises 21 and 22

    private static void seen() {
        begin(21);
        is("plain", plain("size 5 5;village a ne;village b n;village c s sees 1 2 3 4 5;"), 25);
        for (int c = 0; c < 25; c++) {
            x.build(c, c);
        }
        int[] corners = {24, 23, 22, 21, 20, 15, 10, 5, 0};
        for (int s = 0; s < 9; s++) {
            is("the greatest height", x.seen(0, s), corners[s]);
        }
        for (int s = 0; s < 5; s++) {
            is("the eastern one first", x.seen(1, s), 24 - s);
            is("the western one first", x.seen(2, s), 20 + s);
        }
        no("no tenth strip", () -> x.seen(0, 9), 2);
        no("no sixth strip", () -> x.seen(1, 5), 2);
        no("no such VILLAGE", () -> x.seen(3, 0), 2);
        for (int wrong : WRONG) {
            no("no such strip", () -> x.seen(0, wrong), 2);
            no("no such VILLAGE", () -> x.seen(wrong, 0), 2);
        }
        is("plain", plain("size 1 1;village a n;"), 1);
        is("0", x.seen(0, 0), 0);
        is("build", x.build(0, 99));
        is("99", x.seen(0, 0), 99);
    }

    private static void otherwise() {
        begin(22);
        for (int what : new int[] {-1, 2, MIN, MAX}) {
            no("5 ahead of 8", () -> x.otherwise(what), 5);
        }
        is("plain", plain("size 2 1;village a s;village b s sees 1 2;village c n sees 2 2;village d w sees 9;"), 2);
        for (int what : new int[] {-1, 2, MIN, MAX}) {
            no("5", () -> x.otherwise(what), 5);
        }
        is("the first with a SKYLINE", x.otherwise(0), 1);
        is("its first strip", x.otherwise(1), 0);
        town(1, 0);
        is("the first with a SKYLINE", x.otherwise(0), 1);
        is("its second strip", x.otherwise(1), 1);
        town(1, 2);
        is("the next VILLAGE", x.otherwise(0), 2);
        is("its last strip", x.otherwise(1), 1);
        town(1, 3);
        is("higher than promised", x.otherwise(0), 1);
        is("the strip", x.otherwise(1), 1);
        is("plain", plain("size 2 1;village a s;village b s sees 1 2;village c n sees 2 1;village d w sees 2;"), 2);
        town(1, 2);
        no("all is SEEN as promised", () -> x.otherwise(0), 8);
        no("all is SEEN as promised", () -> x.otherwise(1), 8);
        is("plain", plain("size 2 1;village a s;"), 2);
        no("nothing was promised", () -> x.otherwise(0), 8);
        is("plain", plain("size 1 1;village a s sees 0;village b s sees 99;"), 1);
        is("0 is SEEN, 99 is not", x.otherwise(0), 1);
        is("build", x.build(0, 99));
        is("99 is SEEN, 0 is not", x.otherwise(0), 0);
    }

    // ---- promise 23

    private static void stone() {
        begin(23);
        String five = times(5, 99) + ";";
        is("plain", plain("size 5 5;" + ("price" + five).repeat(5)), 25);
        is("no CELL above the LEAST", x.stone(), 0);
        x.tray(0, 0, 25);
        for (int c = 0; c < 25; c++) {
            x.write(0, c, 99);
        }
        is("buildAll", x.buildAll(0));
        is("as much as can be", x.stone(), 25 * 99 * 99);
        is("plain", plain("size 3 1;least 5 5 5;price 2 3 99;"), 3);
        is("at the LEAST", x.stone(), 0);
        town(4, 5, 0);
        is("below it: 0 at least", x.stone(), 0);
        town(4, 6, 0);
        is("none is taken off for those below", x.stone(), 3);
        town(6, 7, 6);
        is("together", x.stone(), 2 + 6 + 99);
        is("plain", plain("size 1 1;most 3;least 1;"), 1);
        town(99);
        is("above the MOST, too", x.stone(), 98);
    }

    public static void main(String[] args) {
        whatIsAsked();
        sidesAndStrips();
        promises();
        stripsOfSides();
        heights();
        allHeights();
        seen();
        otherwise();
        stone();
        end();
    }
}
