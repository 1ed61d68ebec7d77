/** Each promise of the document by hand: ordinary inputs, the edges that it names, and wrong inputs. */
public final class PromisesTest extends Bench {
    private static void newObject() {
        begin(1);
        due("status", x.status(), 0);
        due("top", x.top(), 0);
        due("bottom", x.bottom(), 1);
        due("fault", x.fault(0), -1);
        due("fault place", x.fault(1), -1);
        no("tray", () -> x.read(0, 0), 3);
        no("tray 3", () -> x.read(3, 0), 3);
        is("width", x.many(0), 0);
        is("height", x.many(1), 0);
        is("villages", x.many(2), 0);
        no("orders", () -> x.built(0), 8);
        no("marks", () -> x.back(), 8);
        no("empty tape", () -> x.plain(1), 5);
        is("towns of nothing", x.towns(0), 1);
        is("courts of nothing", x.courts(0), 0);
        is("largest of nothing", x.largest(0), 0);
        is("cheapest of nothing", x.cheapest(0), 0);
        is("least of nothing", x.least(0), 0);
        is("a tray of none", x.tray(0, 0, 0));
        no("no village to watch", () -> x.watchers(0, 2), 9);
        is("no side sees", tenthOf(5), 0);
        is("storm on nothing", orders("storm 9; stop;"), 2);
        is("built on nothing", x.built(1), 2);
        faultOfOrders("raise 0 0;", 4, 6);
    }

    private static int tenthOf(int... row) {
        fill(0, row);
        return x.tenth(0, row.length);
    }

    private static void statusAndFraction() {
        begin(2);
        no("many", () -> x.many(9), 5);
        x.feed(0, 0, 0, 0, 0);
        x.fault(0);
        x.top();
        x.bottom();
        due("status stays", x.status(), 5);
        x.many(0);
        due("status of a good call", x.status(), 0);
        begin(3);
        is("plain", plain("size 2 1; village a s sees 3 6; price 2 1;"), 2);
        is("least", x.least(1), 12);
        due("top", x.top(), 1);
        promise = 4;
        due("bottom", x.bottom(), 1);
        is("plain", plain("size 2 2; village a s sees 4 6;"), 4);
        is("least", x.least(1), 10);
        due("top", x.top(), 1);
        due("bottom", x.bottom(), 2);
        is("plain", plain("size 2 2; village a s sees 0 0;"), 4);
        is("least of no stone", x.least(1), 0);
        due("the fraction stays", x.bottom(), 2);
        is("plain", plain("size 2 2; most 4 4; most 4 4;"), 4);
        is("least", x.least(0), 0);
        due("0 by 1", x.top(), 0);
        due("0 by 1", x.bottom(), 1);
    }

    private static void trays() {
        begin(5);
        no("tray 4", () -> x.tray(4, 0, 1), 1);
        no("tray -1", () -> x.tray(-1, 0, 1), 1);
        no("sort 4", () -> x.tray(0, 4, 1), 1);
        no("sort -1", () -> x.tray(0, -1, 99), 1);
        no("61", () -> x.tray(0, 0, 61), 5);
        no("-1", () -> x.tray(0, 0, -1), 6);
        no("still missing", () -> x.read(0, 0), 3);
        is("60", x.tray(0, 0, 60));
        is("last", x.read(0, 59), 0);
        x.write(0, 3, 7);
        no("refused", () -> x.tray(0, 0, 61), 5);
        is("stays", x.read(0, 3), 7);
        is("anew", x.tray(0, 2, 4));
        is("all 0", x.read(0, 3), 0);
        no("shorter", () -> x.read(0, 4), 4);
        is("none in it", x.tray(1, 0, 0));
        no("no place", () -> x.read(1, 0), 4);
        begin(6);
        no("missing", () -> x.write(2, 0, 1), 3);
        no("no tray", () -> x.write(4, -1, 1), 1);
        long[] given = {200, 40000, 1L << 31, Long.MIN_VALUE};
        long[] kept = {-56, -25536, -(1L << 31), Long.MIN_VALUE};
        for (int sort = 0; sort < 4; sort++) {
            is("tray", x.tray(sort, sort, 2));
            is("write", x.write(sort, 1, given[sort]));
            is("cut to its sort", x.read(sort, 1), kept[sort]);
        }
        no("place 2", () -> x.write(0, 2, 1), 4);
        no("place -1", () -> x.write(0, -1, 1), 4);
        begin(7);
        no("no tray", () -> x.read(-1, 0), 1);
        no("missing", () -> x.read(0, 7), 3);
        x.tray(0, 3, 1);
        x.write(0, 0, -1);
        is("-1", x.read(0, 0), -1);
        no("NONE", () -> x.read(0, 1), 4);
        no("far off", () -> x.read(0, Integer.MAX_VALUE), 4);
    }

    private static void pour() {
        begin(8);
        no("no tray", () -> x.pour(0, 0, 4, 0, -1), 1);
        no("no tray", () -> x.pour(-1, 0, 0, 0, 1), 1);
        x.tray(0, 1, 5);
        x.tray(1, 2, 5);
        no("missing", () -> x.pour(0, 0, 2, 0, -1), 3);
        no("missing", () -> x.pour(2, 0, 0, 0, -1), 3);
        no("unlike sorts", () -> x.pour(0, 9, 1, 9, -1), 11);
        no("below 0", () -> x.pour(0, 9, 0, 9, -1), 6);
        no("too few", () -> x.pour(0, 1, 0, 0, 5), 4);
        no("too few", () -> x.pour(0, 0, 0, 1, 5), 4);
        no("place -1", () -> x.pour(0, -1, 0, 0, 1), 4);
        no("place -1", () -> x.pour(0, 0, 0, -1, 1), 4);
        no("far off", () -> x.pour(0, 1, 0, 1, Integer.MAX_VALUE), 4);
        fill(0, 1, 2, 3, 4, 5);
        is("onward", x.pour(0, 0, 0, 1, 4));
        int[] onward = {1, 1, 2, 3, 4};
        for (int k = 0; k < 5; k++) {
            is("as they were", x.read(0, k), onward[k]);
        }
        is("backward", x.pour(0, 1, 0, 0, 4));
        int[] backward = {1, 2, 3, 4, 4};
        for (int k = 0; k < 5; k++) {
            is("as they were", x.read(0, k), backward[k]);
        }
        fill(3, 9, 9, 9);
        is("to another", x.pour(0, 1, 3, 2, 1));
        is("there", x.read(3, 2), 2);
        is("not there", x.read(3, 1), 9);
        is("none", x.pour(0, 5, 3, 3, 0));
    }

    private static void tape() {
        begin(9);
        due("feed", x.feed(0x73697a65, 0x20312031, 0x3b202020, 0x20202020, 0x20202020), 20);
        is("highest byte first", x.plain(9), 1);
        for (int k = 1; k <= 45; k++) {
            due("feed", x.feed(0x20202020, 0, 0, 0, 0), 20 * k);
        }
        due("no more", x.feed(0, 0, 0, 0, 0), -1);
        due("fault 1 at 4", x.plain(900), -1);
        due("place", x.fault(1), 4);
        due("empty again", x.feed(0, 0, 0, 0, 0), 20);
    }

    private static void plainTaken() {
        begin(10);
        feed("size 2 3;");
        no("-1", () -> x.plain(-1), 5);
        no("above the tape", () -> x.plain(21), 5);
        due("the tape stays", x.plain(9), 6);
        no("the tape is empty", () -> x.plain(1), 5);
        is("plain", plain("size 2 1;least 3 4;"), 2);
        townIs(3, 4);
        is("orders", orders("stop;"), 1);
        x.build(0, 9);
        faultOfPlain("", 2, 0);
        faultOfPlain("size 2 1", 2, 8);
        is("the old one stays", x.height(0), 9);
        is("and its orders", x.built(0), 1);
        is("a new one", plain("size2 1;"), 2);
        townIs(0, 0);
        no("no orders then", () -> x.built(0), 8);
        is("blanks", plain("\n size\n5  5 ;  "), 25);
        is("leading noughts", plain("size 0005 05;"), 25);
    }

    private static void plainFaults() {
        begin(10);
        faultOfPlain("size 1 1;#", 1, 9);
        faultOfPlain("size 1 1;\t", 1, 9);
        faultOfPlain("size 12345 1;", 1, 5);
        faultOfPlain("Size 1 1;", 1, 0);
        faultOfPlain("size 1 1; \u00e9", 1, 10);
        faultOfPlain("most 1;", 2, 0);
        faultOfPlain("size 1;", 2, 6);
        faultOfPlain("size 1 1 1;", 2, 9);
        faultOfPlain("size 1 1;size 1 1;", 2, 9);
        faultOfPlain("size 1 1;most;", 2, 13);
        faultOfPlain("size 1 1;most 1", 2, 15);
        faultOfPlain("size 1 1;most 1  ", 2, 17);
        faultOfPlain("size 1 1;village most n;", 2, 17);
        faultOfPlain("size 1 1;village ne n;", 2, 17);
        faultOfPlain("size 1 1;village abcdefghi n;", 2, 17);
        faultOfPlain("size 1 1;village a;", 2, 18);
        faultOfPlain("size 1 1;village a b;", 2, 19);
        faultOfPlain("size 1 1;village a n sees;", 2, 25);
        faultOfPlain("size 1 1;village a n 1;", 2, 21);
        faultOfPlain("size 1 1;village a n;village a s;", 3, 29);
        faultOfPlain("size 0 1;", 4, 5);
        faultOfPlain("size 1 6;", 4, 7);
        faultOfPlain("size 1 1;most 100;", 4, 14);
        faultOfPlain("size 1 1;price 0;", 4, 15);
        faultOfPlain("size 1 1;least 5 100;", 4, 17);
        faultOfPlain("size 1 1;village a n sees 100;", 4, 26);
        faultOfPlain("size 1 1;most 1;most 1;", 6, 16);
        faultOfPlain("size 1 1;least 1 1;", 6, 17);
        faultOfPlain("size 1 1;least 1 0;", 6, 17);
        faultOfPlain("size 1 1;most 1 99;", 6, 16);
        faultOfPlain("size 1 1;price 1 1;", 6, 17);
        faultOfPlain("size 1 1;price 1 0;", 4, 17);
        faultOfPlain("size 2 1;village a e sees 1 1;", 6, 28);
        String six = "size 1 1;village a n;village b n;village c n;village d n;village e n;";
        faultOfPlain(six, 2, 65);
        six = six.replace(" e ", " f ") + "village g n;";
        is("six villages", plain(six), 1);
        faultOfPlain(six + "village h n;", 6, six.length());
        faultOfPlain("size 2 1;most 1;", 7, 15);
        faultOfPlain("size 2 2;village a ne sees 1 1;", 7, 30);
        is("eight letters", plain("size 1 1;village abcdefgh n;"), 1);
        is("longer than a word", plain("size 1 1;village mosts n;village nn n;"), 1);
    }

    private static void ordersTaken() {
        begin(11);
        is("plain", plain("size 2 2;village a s;village b w sees 0 0;"), 4);
        is("none", orders(""), 0);
        is("built", x.built(0), 0);
        is("ends are none", orders("loop 2;when same b;raise 1 1 by 99;end;end;stop;"), 4);
        feed("stop;");
        no("-1", () -> x.orders(-1), 5);
        no("21", () -> x.orders(21), 5);
        is("the tape stays", x.orders(5), 1);
        no("the tape is empty", () -> x.orders(1), 5);
        String blanks = " ".repeat(296);
        is("300", orders("stop" + blanks.substring(1) + ";"), 1);
        feed("stop;" + blanks);
        no("301", () -> x.orders(301), 5);
        is("300 of it", x.orders(300), 1);
        is("all tests", orders("when cell 1 0 <99;end;when sees a at 8=0;end;when stone>9999;end;"), 3);
        is("three within", orders("loop 1;loop 1;when same a;end;end;end;"), 3);
        StringBuilder thirty = new StringBuilder();
        for (int k = 0; k < 30; k++) {
            thirty.append("stop;");
        }
        is("thirty", orders(thirty.toString()), 30);
        faultOfOrders(thirty + "stop;", 6, 150);
        faultOfOrders(thirty + "end;", 2, 150);
        is("the old ones stay", x.built(0), 1);
    }

    private static void ordersFaults() {
        begin(11);
        is("plain", plain("size 3 2;village a s;village b w sees 0 0;"), 6);
        faultOfOrders("stop;!", 1, 5);
        faultOfOrders("storm 00001;", 1, 6);
        faultOfOrders("go;", 2, 0);
        faultOfOrders("stop", 2, 4);
        faultOfOrders("end;", 2, 0);
        faultOfOrders("loop 2;stop;", 2, 12);
        faultOfOrders("loop 2;end;end;", 2, 11);
        faultOfOrders("raise 1;", 2, 7);
        faultOfOrders("raise 1 1 by;", 2, 12);
        faultOfOrders("lower 1 1 1;", 2, 10);
        faultOfOrders("when b;end;", 2, 5);
        faultOfOrders("when same stone;end;", 2, 10);
        faultOfOrders("when same abcdefghi;end;", 2, 10);
        faultOfOrders("when sees a 1=1;end;", 2, 12);
        faultOfOrders("when stone;end;", 2, 10);
        faultOfOrders("when stone = <;end;", 2, 13);
        faultOfOrders("when same zz;end;", 3, 10);
        faultOfOrders("when sees zz at 1=1;end;", 3, 10);
        faultOfOrders("raise 3 0;", 4, 6);
        faultOfOrders("raise 0 2;", 4, 8);
        faultOfOrders("raise 0 0 by 0;", 4, 13);
        faultOfOrders("lower 0 0 by 100;", 4, 13);
        faultOfOrders("storm 0;", 4, 6);
        faultOfOrders("loop 100;end;", 4, 5);
        faultOfOrders("when cell 0 0 = 100;end;", 4, 16);
        faultOfOrders("when cell 3 0 = 1;end;", 4, 10);
        faultOfOrders("when sees a at 9 = 1;end;", 4, 15);
        faultOfOrders("when sees a at 8 = 100;end;", 4, 19);
        faultOfOrders("loop 1;loop 1;loop 1;loop 1;end;end;end;end;", 7, 21);
        faultOfOrders("loop 1;loop 1;loop 1;when same a;end;end;end;end;", 7, 21);
        StringBuilder steps = new StringBuilder("loop 1;loop 1;loop 1;");
        for (int k = 0; k < 27; k++) {
            steps.append("stop;");
        }
        faultOfOrders(steps + "loop 1;", 6, steps.length());
    }

    private static void faultTold() {
        begin(12);
        is("plain", plain("size 1 1;"), 1);
        due("without one", x.fault(0), 0);
        due("its place", x.fault(1), -1);
        plain("size 9 1;");
        no("5", () -> x.plain(99), 5);
        due("5 tells nothing", x.fault(0), 4);
        due("its place", x.fault(1), 5);
        due("what 2", x.fault(2), -1);
        due("what -1", x.fault(-1), -1);
        due("status stays", x.status(), 5);
        orders("raise;");
        due("of orders", x.fault(0), 2);
        due("its place", x.fault(1), 5);
        orders("stop;");
        due("of good orders", x.fault(0), 0);
    }

    private static void partsOfPlain() {
        begin(13);
        is("plain", plain("size 3 2;most 1 2 3;least 4 5 6;least 7 8 9;price 9 8 7;village a e;village b nw sees 1 2 3 4;"), 6);
        is("width", x.many(0), 3);
        is("height", x.many(1), 2);
        is("villages", x.many(2), 2);
        no("what 3", () -> x.many(3), 5);
        no("what -1", () -> x.many(-1), 5);
        promise = 14;
        is("most", x.cell(2, 0), 3);
        is("most without", x.cell(3, 0), 99);
        is("least", x.cell(5, 1), 9);
        is("price", x.cell(0, 2), 9);
        is("price without", x.cell(5, 2), 1);
        no("cell 6", () -> x.cell(6, 9), 2);
        no("cell -1", () -> x.cell(-1, 0), 2);
        no("what 3", () -> x.cell(0, 3), 5);
        no("what -1", () -> x.cell(0, -1), 5);
        promise = 15;
        is("side", x.village(0, 0), 2);
        is("side", x.village(1, 0), 7);
        is("strips", x.village(0, 1), 2);
        is("strips", x.village(1, 1), 4);
        is("no skyline", x.village(0, 2), 0);
        is("a skyline", x.village(1, 2), 1);
        no("village 2", () -> x.village(2, 7), 2);
        no("village -1", () -> x.village(-1, 0), 2);
        no("what 3", () -> x.village(0, 3), 5);
        promise = 16;
        is("promised", x.promised(1, 0), 1);
        is("promised", x.promised(1, 3), 4);
        no("strip 4", () -> x.promised(1, 4), 2);
        no("strip -1", () -> x.promised(1, -1), 2);
        no("no village", () -> x.promised(2, 0), 2);
        no("no strip", () -> x.promised(0, 2), 2);
        no("no skyline", () -> x.promised(0, 1), 8);
        promise = 17;
        int[][] strips = {{2, 1, 0, 2, 1, 0}, {3, 2, 1, 2, 1, 0}, {1, 1, 1, 0, 0, 0}, {1, 2, 3, 0, 1, 2},
            {0, 1, 2, 0, 1, 2}, {0, 1, 2, 1, 2, 3}, {0, 0, 0, 1, 1, 1}, {2, 1, 0, 3, 2, 1}};
        for (int side = 0; side < 8; side++) {
            for (int c = 0; c < 6; c++) {
                is("strip from " + side + " of " + c, x.strip(side, c), strips[side][c]);
            }
        }
        no("side 8", () -> x.strip(8, 0), 2);
        no("side -1", () -> x.strip(-1, 0), 2);
        no("cell 6", () -> x.strip(0, 6), 2);
    }

    private static void theTown() {
        begin(18);
        is("plain", plain("size 2 2;least 1 2;price 3 4;village a s sees 5 2;village b ne;village c w sees 5 0;"), 4);
        is("least", x.height(1), 2);
        no("cell 4", () -> x.height(4), 2);
        no("cell -1", () -> x.height(-1), 2);
        promise = 19;
        is("build", x.build(3, 99));
        is("height", x.height(3), 99);
        no("100", () -> x.build(3, 100), 5);
        no("-1", () -> x.build(3, -1), 5);
        no("cell 4", () -> x.build(4, 100), 2);
        is("stays", x.height(3), 99);
        is("0", x.build(3, 0));
        promise = 20;
        no("no tray", () -> x.buildAll(4), 1);
        no("missing", () -> x.buildAll(0), 3);
        fill(0, 5, 1, 100);
        no("too few", () -> x.buildAll(0), 4);
        fill(0, 5, 1, 100, 3);
        no("a height", () -> x.buildAll(0), 5);
        fill(0, 5, 1, -1, 3);
        no("a height", () -> x.buildAll(0), 5);
        townIs(1, 2, 0, 0);
        fill(0, 5, 1, 0, 3, 777);
        is("buildAll", x.buildAll(0));
        townIs(5, 1, 0, 3);
        promise = 21;
        is("from s", x.seen(0, 0), 5);
        is("from s", x.seen(0, 1), 3);
        is("from ne", x.seen(1, 0), 3);
        is("from ne", x.seen(1, 1), 1);
        is("from ne", x.seen(1, 2), 5);
        no("strip 2", () -> x.seen(0, 2), 2);
        no("village 3", () -> x.seen(3, 0), 2);
        promise = 22;
        is("village", x.otherwise(0), 0);
        is("strip", x.otherwise(1), 1);
        no("what 2", () -> x.otherwise(2), 5);
        no("what -1", () -> x.otherwise(-1), 5);
        town(5, 2, 0, 0);
        no("all as promised", () -> x.otherwise(0), 8);
        no("5 ahead of 8", () -> x.otherwise(2), 5);
        town(5, 0, 1, 2);
        is("village", x.otherwise(0), 2);
        is("strip", x.otherwise(1), 1);
        promise = 23;
        is("stone", x.stone(), 4 * 3 + 0 + 1 + 2);
    }

    private static void canBeKept() {
        begin(24);
        is("plain", plain("size 2 2;most 9 4;least 0 2;village a s sees 5 4;village b w sees 5 3;village c n;"), 4);
        is("by none", x.cap(0, 0), 9);
        is("by none", x.cap(3, 4), 99);
        is("by a", x.cap(3, 1), 4);
        is("by b", x.cap(2, 2), 3);
        is("by both", x.cap(1, 7), 4);
        no("cell 4", () -> x.cap(4, 0), 2);
        no("set 8", () -> x.cap(0, 8), 2);
        no("set -1", () -> x.cap(0, -1), 2);
        promise = 25;
        is("can", x.can(7), 1);
        is("can", x.can(0), 1);
        no("set 8", () -> x.can(8), 2);
        no("set -1", () -> x.can(-1), 2);
        no("set min", () -> x.can(Integer.MIN_VALUE), 2);
        is("plain", plain("size 2 1;village a s sees 5 4;village b n sees 4 6;"), 2);
        is("each", x.can(1) + x.can(2), 2);
        is("both can't", x.can(3), 0);
        promise = 26;
        is("no cell", x.barred(3, 0), -1);
        is("the village", x.barred(3, 1), 1);
        is("the strip", x.barred(3, 2), 1);
        no("they can be", () -> x.barred(1, 0), 8);
        no("what 3", () -> x.barred(1, 3), 5);
        no("what -1", () -> x.barred(3, -1), 5);
        no("set 4", () -> x.barred(4, 3), 2);
        is("plain", plain("size 2 1;most 9 1;least 1 2;village a s sees 0 9;"), 2);
        is("the cell", x.barred(1, 0), 0);
        is("no village", x.barred(1, 1), -1);
        is("no strip", x.barred(1, 2), -1);
        is("least above most", x.barred(0, 0), 1);
    }

    private static void dearAndCheap() {
        begin(27);
        is("plain", plain("size 2 2;most 9 4;least 0 2;price 1 5;village a s sees 5 4;village b w sees 5 3;"), 4);
        is("both can be kept", x.can(3), 1);
        is("largest", x.largest(3), 5 + 2 * 5 + 3 + 3);
        townIs(5, 4, 3, 3);
        no("set 4", () -> x.largest(4), 2);
        promise = 28;
        is("cheapest", x.cheapest(3), 5 + 2 * 5 + 3);
        townIs(5, 4, 0, 3);
        no("set 4", () -> x.cheapest(4), 2);
        promise = 29;
        is("least", x.least(1), 5 + 4);
        due("top of 9 by 24", x.top(), 3);
        due("bottom of 9 by 24", x.bottom(), 8);
        townIs(5, 4, 0, 3);
        no("set 4", () -> x.least(4), 2);
        promise = 28;
        is("plain", plain("size 3 3;village a s sees 1 1 1;village b w sees 1 1 1;"), 9);
        is("the first low as long as may be", x.cheapest(3), 3);
        townIs(0, 0, 1, 0, 1, 0, 1, 0, 0);
        is("plain", plain("size 2 1;least 3 0;village a e sees 3;"), 2);
        is("a cap that is the least", x.cheapest(1), 0);
        townIs(3, 0);
        is("plain", plain("size 1 1;least 3;village a e sees 2;"), 1);
        promise = 27;
        no("can't", () -> x.largest(1), 9);
        promise = 28;
        no("can't", () -> x.cheapest(1), 9);
        promise = 29;
        no("can't", () -> x.least(1), 9);
        townIs(3);
        due("the fraction stays", x.top(), 3);
    }

    private static void courtsAndTowns() {
        begin(30);
        is("plain", plain("size 3 3;price 1 9 9;village a s sees 1 1 1;village b w sees 1 1 1;village c s sees 2 2 2;"), 9);
        is("courts", x.courts(3), 6);
        is("courts of none", x.courts(0), 9);
        no("can't", () -> x.courts(7), 9);
        no("set 8", () -> x.courts(8), 2);
        promise = 31;
        is("zeros and ones with no empty row or column", x.towns(3), 265);
        is("can't", x.towns(5), 0);
        is("all heights are free", x.towns(0), power(100, 9));
        no("set 8", () -> x.towns(8), 2);
        is("plain", plain("size 4 4;village a ne sees 1 1 1 1 1 1 1;village b ne sees 1 1 1 1 1 1 1;village c n sees 1 1 1 1;"), 16);
        is("14 strips", x.towns(3), power(3, 2) * power(7, 2) % 1000007 * 15);
        no("18 strips", () -> x.towns(7), 7);
        x.towns(5);
        due("11 strips", x.status(), 0);
        is("plain", plain("size 5 4;village a ne sees 9 9 9 9 9 9 9 9;village b sw sees 8 8 8 8 8 8 8 8;"), 20);
        is("16 strips", x.towns(3), 0);
        is("plain", plain("size 5 5;village a ne sees 1 1 1 1 1 1 1 1 1;village b s;village c nw sees 1 1 1 1 1 1 1 1 1;"), 25);
        is("no skyline, no strips", x.towns(3), power(3, 2) * power(7, 2) % 1000007 * power(15, 2) % 1000007 * 31 % 1000007);
        no("18 strips", () -> x.towns(5), 7);
    }

    private static long power(long base, int times) {
        long p = 1;
        for (int k = 0; k < times; k++) {
            p = p * base % 1000007;
        }
        return p;
    }

    private static void sureAndStruck() {
        begin(32);
        is("plain", plain("size 2 2;most 9 4;least 0 2;village a s sees 5 4;village b w sees 5 3;"), 4);
        is("least", x.sure(3, 0, 0), 5);
        is("least", x.sure(3, 1, 0), 4);
        is("greatest", x.sure(3, 1, 1), 4);
        is("least", x.sure(3, 2, 0), 0);
        is("greatest", x.sure(3, 2, 1), 3);
        is("by a alone", x.sure(1, 0, 0), 0);
        no("what 2", () -> x.sure(3, 0, 2), 5);
        no("cell 4", () -> x.sure(3, 4, 2), 2);
        no("set 4", () -> x.sure(4, 0, 0), 2);
        is("plain", plain("size 2 1;village a s sees 3 3;village b n sees 4 4;village c w sees 4;village d e sees 4;"), 2);
        no("can't", () -> x.sure(3, 0, 0), 9);
        promise = 33;
        is("fewest", x.struck(), 1);
        is("plain", plain("size 2 1;village a s sees 3 3;village b n sees 4 4;village c s sees 3 3;"), 2);
        is("fewest", x.struck(), 2);
        is("plain", plain("size 1 1;village a s sees 1;village b s sees 2;village c s sees 3;"), 1);
        is("of several the least", x.struck(), 3);
        is("plain", plain("size 1 1;village a s;village b s;"), 1);
        is("none", x.struck(), 0);
        is("plain", plain("size 1 1;most 3;least 4;village b s sees 3;"), 1);
        no("not even without any", () -> x.struck(), 9);
    }

    private static void downAndInstead() {
        begin(34);
        is("plain", plain("size 2 2;least 1 0;village a s sees 9 9;village b s;village c w;village d ne;"), 4);
        town(4, 3, 2, 3);
        is("down", x.down(0), 4);
        is("hidden by none", x.down(1), 1);
        is("hidden from all", x.down(2), 0);
        is("not changed", x.height(0), 4);
        town(0, 3, 2, 3);
        is("below its least", x.down(0), 0);
        no("cell 4", () -> x.down(4), 2);
        no("cell -1", () -> x.down(-1), 2);
        promise = 35;
        is("plain", plain("size 2 2;price 2 3;price 1 7;village a s;village b w sees 9 9;"), 4);
        town(5, 1, 1, 5);
        is("instead", x.instead(0), 3 * 5 + 1 * 5);
        is("instead", x.instead(1), 2 * 5 + 7 * 5);
        is("not changed", x.height(0), 5);
        no("cell 4", () -> x.instead(4), 2);
        is("plain", plain("size 2 1;most 5 4;village a s;village b w;"), 2);
        town(5, 4);
        no("it stands alone in its strip", () -> x.instead(0), 9);
        is("plain", plain("size 2 1;most 5 4;village b w;"), 2);
        town(5, 4);
        no("the other may not be so high", () -> x.instead(0), 9);
        is("the first one is enough", x.instead(1), 5);
        town(3, 3);
        is("the other instead", x.instead(0), 3);
        town(6, 0);
        no("above all mosts", () -> x.instead(1), 9);
        is("plain", plain("size 2 1;most 5 4;least 0 6;"), 2);
        no("a least above its most", () -> x.instead(0), 9);
        is("plain", plain("size 2 1;least 3 6;"), 2);
        town(9, 9);
        is("nobody sees", x.instead(0), 0);
        is("plain", plain("size 2 1;least 3 1;village a e;"), 2);
        town(1, 2);
        no("a least above what is seen", () -> x.instead(1), 9);
    }

    private static void apart() {
        begin(36);
        is("plain", plain("size 2 2;village a s;village b w;"), 4);
        no("no tray", () -> x.apart(4, 0, 9), 1);
        no("no tray", () -> x.apart(0, -1, 9), 1);
        no("no village", () -> x.apart(0, 1, 2), 2);
        fill(0, 1, 2, 3);
        no("missing", () -> x.apart(0, 1, 0), 3);
        no("missing", () -> x.apart(1, 0, 0), 3);
        fill(1, 1, 2, 3, 100);
        no("too few", () -> x.apart(0, 1, 0), 4);
        no("too few", () -> x.apart(1, 0, 0), 4);
        fill(0, 1, 2, 3, 4, 5);
        no("a height", () -> x.apart(0, 1, 0), 5);
        no("a height", () -> x.apart(1, 0, 0), 5);
        fill(1, 3, 4, 1, 2, -1);
        no("not by it", () -> x.apart(0, 1, 0), 8);
        is("the first strip", x.apart(0, 1, 1), 0);
        fill(1, 1, 2, 0, 4);
        is("the first strip", x.apart(0, 1, 0), 0);
        no("not by it", () -> x.apart(0, 1, 1), 8);
        no("itself", () -> x.apart(0, 0, 1), 8);
    }

    private static void watchers() {
        begin(37);
        is("plain", plain("size 2 2;village a s;village b w;village c n;"), 4);
        no("no tray", () -> x.watchers(4, 1), 1);
        no("missing", () -> x.watchers(0, 1), 3);
        fill(0, 1, 2, 3, 4, 3, 4, 1, 200);
        no("1 row", () -> x.watchers(0, 1), 5);
        no("5 rows", () -> x.watchers(0, 5), 5);
        no("too few", () -> x.watchers(0, 3), 4);
        no("a height", () -> x.watchers(0, 2), 5);
        fill(0, 1, 2, 3, 4, 3, 4, 1, 2);
        is("b alone", x.watchers(0, 2), 2);
        fill(0, 1, 2, 3, 4, 1, 2, 0, 4);
        is("of several the least", x.watchers(0, 2), 1);
        fill(0, 1, 2, 3, 4, 3, 4, 1, 2, 1, 2, 0, 4);
        is("two rows of three", x.watchers(0, 2), 2);
        is("the couple of first and last, too", x.watchers(0, 3), 3);
        fill(0, 0, 0, 0, 0, 1, 1, 1, 1, 0, 0, 0, 0);
        no("first and last alike", () -> x.watchers(0, 3), 9);
        fill(0, 0, 0, 0, 0, 1, 1, 1, 1, 2, 2, 2, 2, 3, 3, 3, 3);
        is("four rows", x.watchers(0, 4), 1);
        is("plain", plain("size 2 2;"), 4);
        no("nobody", () -> x.watchers(0, 2), 9);
    }

    private static void tenth() {
        begin(38);
        is("plain", plain("size 2 3;"), 6);
        town(1, 2, 3, 4, 5, 6);
        no("no tray", () -> x.tenth(4, 0), 1);
        no("missing", () -> x.tenth(0, 0), 3);
        fill(0, 5, 6, 100);
        no("0", () -> x.tenth(0, 0), 5);
        no("10", () -> x.tenth(0, 10), 5);
        no("too few", () -> x.tenth(0, 4), 4);
        no("a height", () -> x.tenth(0, 3), 5);
        is("from s", x.tenth(0, 2), 16);
        is("from n", tenthOf(6, 5), 1);
        is("from e", tenthOf(6, 4, 2), 4);
        is("from w", tenthOf(2, 4, 6), 64);
        is("from ne", tenthOf(6, 5, 3, 1), 2);
        is("from sw", tenthOf(1, 3, 5, 6), 32);
        is("from nw", tenthOf(2, 4, 6, 5), 128);
        is("from se", tenthOf(5, 6, 4, 2), 8);
        is("from nowhere", tenthOf(6, 6), 0);
        is("of too many", tenthOf(1, 1, 1, 1, 1, 1, 1, 1, 1), 0);
        is("plain", plain("size 1 1;"), 1);
        is("from all", tenthOf(0), 255);
        is("plain", plain("size 5 5;"), 25);
        is("nine strips", tenthOf(0, 0, 0, 0, 0, 0, 0, 0, 0), 2 + 8 + 32 + 128);
    }

    private static void order() {
        begin(39);
        is("plain", plain("size 2 2;village a s;village b w;"), 4);
        town(1, 0, 0, 1);
        no("no tray", () -> x.order(4), 1);
        no("missing", () -> x.order(0), 3);
        fill(0, 0, 1, 100);
        no("too few", () -> x.order(0), 4);
        fill(0, 0, 1, 100, 0);
        no("a height", () -> x.order(0), 5);
        no("none yet", () -> x.orderAt(0), 8);
        fill(0, 0, 1, 1, 0);
        is("order", x.order(0), 4);
        int[] cells = {1, 2, 0, 3};
        for (int k = 0; k < 4; k++) {
            is("order at " + k, x.orderAt(k), cells[k]);
        }
        is("not built", x.height(0), 1);
        fill(1, 0, 1, 1, 1);
        is("another", x.order(1), 3);
        is("the first", x.orderAt(0), 1);
        is("the second", x.orderAt(1), 2);
        is("the last", x.orderAt(2), 0);
        promise = 40;
        no("none such", () -> x.orderAt(3), 8);
        no("none such", () -> x.orderAt(-1), 8);
        fill(1, 0, 1, 1, 2);
        promise = 39;
        no("can't be", () -> x.order(1), 9);
        promise = 40;
        is("by the latest with 0", x.orderAt(2), 0);
        is("plain", plain("size 5 5;"), 25);
        is("a plain leaves it", x.orderAt(2), 0);
        promise = 39;
        x.tray(2, 0, 25);
        for (int k = 0; k < 12; k++) {
            x.write(2, 2 * k, 7);
        }
        is("twelve", x.order(2), 12);
        is("the last", x.orderAt(11), 22);
        x.write(2, 24, 1);
        no("thirteen", () -> x.order(2), 7);
        is("the twelve stay", x.orderAt(11), 22);
        fill(2, new int[25]);
        is("none", x.order(2), 0);
        no("none such", () -> x.orderAt(0), 8);
    }

    private static void likes() {
        begin(41);
        is("plain", plain("size 2 2;most 5 6;most 7 4;least 1 0;village a s sees 0 0;village b w;"), 4);
        no("no tray", () -> x.like(4, 0), 1);
        no("missing", () -> x.like(0, 0), 3);
        fill(0, 5, 100);
        no("0", () -> x.like(0, 0), 5);
        no("10", () -> x.like(0, 10), 5);
        no("too few", () -> x.like(0, 3), 4);
        no("a height", () -> x.like(0, 2), 5);
        no("one has not so many", () -> x.like(0, 1), 9);
        fill(0, 5, 4);
        is("can", x.like(0, 2), 1);
        fill(0, 7, 6);
        is("no row of 7", x.like(0, 2), 0);
        fill(0, 0, 0);
        is("below a least", x.like(0, 2), 0);
        promise = 42;
        is("highest", x.highest(), 6);
        is("plain", plain("size 2 2;most 5 6;most 7 4;least 1 0;least 7 0;village a s sees 0 0;village b w;"), 4);
        no("none", () -> x.highest(), 8);
        is("plain", plain("size 2 2;"), 4);
        no("no village", () -> x.highest(), 8);
        promise = 41;
        no("no village", () -> x.like(0, 2), 8);
        promise = 42;
        is("plain", plain("size 2 2;most 0 0;most 0 0;village a ne;"), 4);
        is("0", x.highest(), 0);
        is("plain", plain("size 3 1;village a ne;village b w;"), 3);
        is("unlike many strips", x.highest(), 99);
        promise = 41;
        fill(0, 1, 1, 1);
        no("one of two has not", () -> x.like(0, 3), 9);
    }

    private static void masons() {
        begin(43);
        is("plain", plain("size 2 2;least 3 0;price 2 1;village a s sees 5 5;village b w;"), 4);
        no("no orders", () -> x.built(0), 8);
        no("5 ahead of 8", () -> x.built(-1), 5);
        is("orders", orders("raise 0 0 by 2;lower 1 0;raise 1 1;"), 3);
        no("10000", () -> x.built(10000), 5);
        no("none built yet", () -> x.building(0), 8);
        is("built", x.built(9999), 3);
        townIs(5, 0, 0, 1);
        promise = 44;
        is("laid", x.building(0), 3);
        is("taken", x.building(1), 0);
        is("left", x.building(2), 0);
        no("what 3", () -> x.building(3), 5);
        no("what -1", () -> x.building(-1), 5);
        promise = 43;
        is("orders", orders("raise 0 0 by 99;lower 1 1 by 9;"), 2);
        is("built", x.built(0), 2);
        townIs(99, 0, 0, 0);
        promise = 44;
        is("as far as it went", x.building(0), 94);
        is("as far as it went", x.building(1), 1);
        no("wrong seed", () -> x.built(10000), 5);
        is("of the latest with 0", x.building(0), 94);
        promise = 43;
        // s becomes 12,007, then 12,007 * 2,861 + 12,007 = 34,364,034 less 524 * 65,536 = 23,170:
        // 12,007 / 8 = 1,500, by 4: 0; 23,170 / 8 = 2,896, by 4: 0.
        is("orders", orders("storm 2;"), 1);
        is("built", x.built(0), 1);
        townIs(97, 0, 0, 0);
        promise = 44;
        is("taken", x.building(1), 2);
        promise = 43;
        // from 1: 14,868 / 8 = 1,858, by 4: 2, where nothing is to be taken
        is("orders", orders("storm 1;"), 1);
        is("built", x.built(1), 1);
        promise = 44;
        is("nothing there", x.building(1), 0);
    }

    private static void steps() {
        begin(43);
        is("plain", plain("size 2 2;least 3 0;price 2 1;village a s sees 5 5;village b w;village c s sees 3 0;"), 4);
        int[] built = {2, 2, 1, 1, 2, 1, 1, 2, 2, 2, 1, 2, 1};
        String[] tests = {"cell 0 0=3", "cell 0 0<4", "cell 0 0>3", "cell 0 0<3", "sees b at 0 = 3", "sees b at 2<99",
            "same a", "same c", "stone = 0", "stone<1", "stone>0", "sees a at 1<1", "same b"};
        for (int k = 0; k < tests.length; k++) {
            is("orders", orders("when " + tests[k] + ";lower 1 1;end;"), 2);
            is(tests[k], x.built(0), built[k]);
        }
        is("orders", orders("raise 1 0;raise 0 0 by 2;when stone=5;raise 0 1;end;"), 4);
        is("stone by price", x.built(0), 4);
        townIs(5, 1, 1, 0);
        is("orders", orders("loop 3;raise 1 1;loop 2;raise 0 1;end;end;"), 4);
        is("loops count when come to from ahead", x.built(0), 1 + 3 + 3 + 6);
        townIs(5, 1, 7, 3);
        is("orders", orders("loop 9;stop;raise 0 0;end;raise 0 0;"), 4);
        is("stop", x.built(0), 2);
        promise = 44;
        is("stopped, none left", x.building(2), 0);
        promise = 43;
        is("orders", orders("loop 7;loop 7;loop 7;end;end;end;"), 3);
        is("empty loops", x.built(0), 1 + 7 + 49);
        is("orders", orders("loop 99;loop 99;loop 99;end;end;end;"), 3);
        is("400", x.built(0), 400);
        promise = 44;
        is("one left", x.building(2), 1);
        promise = 43;
    }

    private static void fourHundred() {
        begin(44);
        is("plain", plain("size 1 1;village a s sees 99;"), 1);
        is("orders", orders("loop 21;loop 17;lower 0 0;end;raise 0 0;end;"), 4);
        is("1 + 21 * (1 + 17 + 1) = 400", x.built(0), 400);
        is("none left", x.building(2), 0);
        is("laid", x.building(0), 21);
        is("taken", x.building(1), 20);
        is("height", x.height(0), 1);
        is("orders", orders("loop 21;loop 17;lower 0 0;end;raise 0 0;end;stop;"), 5);
        is("400", x.built(0), 400);
        is("the stop is left", x.building(2), 1);
        is("orders", orders("loop 99;when cell 0 0<0;end;loop 3;end;raise 0 0;end;loop 1;end;loop 1;when cell 0 0=0;stop;end;end;"), 8);
        is("1 + 99 * 3 + 1 + 1 + 1", x.built(0), 301);
        is("none left", x.building(2), 0);
    }

    private static void tallies() {
        begin(45);
        is("plain", plain("size 2 1;village a w sees 1;"), 2);
        no("no orders", () -> x.tally(0, 1), 8);
        town(2, 2);
        is("orders", orders("storm 2;"), 1);
        // the sight is 1 when both draws differ: each cell once
        int differ = 0;
        for (int seed = 0; seed < 30; seed++) {
            int first = (seed * 2861 + 12007) % 65536;
            int second = (first * 2861 + 12007) % 65536;
            differ += first / 8 % 2 != second / 8 % 2 ? 1 : 0;
        }
        is("tally", x.tally(0, 30), differ);
        due("some differ", differ > 0 && differ < 30, true);
        townIs(2, 2);
        no("tally is no built", () -> x.building(0), 8);
        no("-1", () -> x.tally(-1, 1), 5);
        no("10000", () -> x.tally(10000, 1), 5);
        no("0", () -> x.tally(0, 0), 5);
        no("31", () -> x.tally(0, 31), 5);
        no("the last above", () -> x.tally(9971, 30), 5);
        x.tally(9999, 1);
        due("the last seed", x.status(), 0);
        is("built", x.built(3), 1);
        int taken = x.building(1);
        x.tally(0, 30);
        is("building stays", x.building(1), taken);
        is("plain", plain("size 2 1;"), 2);
        no("no orders", () -> x.tally(0, 30), 8);
        is("orders", orders("stop;"), 1);
        is("no skyline", x.tally(0, 30), 30);
    }

    private static void marks() {
        begin(46);
        is("first", x.mark(), 1);
        is("plain", plain("size 2 1;least 1 2;village a s sees 3 4;"), 2);
        is("orders", orders("raise 0 0 by 5;"), 1);
        town(7, 8);
        is("second", x.mark(), 2);
        is("third", x.mark(), 3);
        no("fourth", () -> x.mark(), 7);
        promise = 47;
        is("built", x.built(0), 1);
        is("orders", orders("stop;stop;"), 2);
        fill(0, 5, 6);
        is("back", x.back(), 2);
        townIs(7, 8);
        is("the orders as they were", x.built(0), 1);
        is("raised", x.height(0), 12);
        is("trays stay", x.read(0, 1), 6);
        is("plain", plain("size 1 1;"), 1);
        is("back", x.back(), 1);
        is("width", x.many(0), 2);
        is("villages", x.many(2), 1);
        is("promised", x.promised(0, 1), 4);
        is("least", x.cell(1, 1), 2);
        townIs(7, 8);
        is("names, too", orders("when same a;end;"), 1);
        is("mark again", x.mark(), 2);
        is("back", x.back(), 1);
        is("back", x.back(), 0);
        is("no plain", x.many(0), 0);
        no("no cell", () -> x.height(0), 2);
        no("no orders", () -> x.built(0), 8);
        no("no mark", () -> x.back(), 8);
        is("building stays", x.building(0), 5);
    }

    public static void main(String[] args) {
        newObject();
        statusAndFraction();
        trays();
        pour();
        tape();
        plainTaken();
        plainFaults();
        ordersTaken();
        ordersFaults();
        faultTold();
        partsOfPlain();
        theTown();
        canBeKept();
        dearAndCheap();
        courtsAndTowns();
        sureAndStruck();
        downAndInstead();
        apart();
        watchers();
        tenth();
        order();
        likes();
        masons();
        steps();
        fourHundred();
        tallies();
        marks();
        end();
    }
}
