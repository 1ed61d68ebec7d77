/** Boundaries of promises 1 to 8: a new object, STATUS, the FRACTION, TRAYS. */
public final class TraysEdgeTest extends Bench {
    private static final int[] NO_TRAYS = {-1, 4, MIN, MAX};
    private static final int[] SORTS = {0, 1, 2, 3};

    // ---- promise 1

    private static void newObjectHasNothing() {
        begin(1);
        due("STATUS 0", x.status(), 0);
        due("the FRACTION 0", x.top(), 0);
        due("by 1", x.bottom(), 1);
        due("fault ahead of any", x.fault(0), -1);
        due("place ahead of any", x.fault(1), -1);
        for (int t = 0; t < 4; t++) {
            int tray = t;
            no("a MISSING tray", () -> x.read(tray, 0), 3);
        }
        for (int what = 0; what < 3; what++) {
            is("no PLAIN", x.many(what), 0);
        }
        no("no CELLS", () -> x.height(0), 2);
        no("no CELLS", () -> x.cell(0, 0), 2);
        no("no CELLS", () -> x.strip(0, 0), 2);
        no("no VILLAGES", () -> x.village(0, 0), 2);
        no("no VILLAGES", () -> x.seen(0, 0), 2);
        no("a set with others", () -> x.can(1), 2);
        no("no ORDERS", () -> x.built(0), 8);
        no("no ORDERS", () -> x.tally(0, 1), 8);
        no("no order", () -> x.orderAt(0), 8);
        no("nothing built", () -> x.building(0), 8);
        no("no MARKS", () -> x.back(), 8);
        no("an empty tape", () -> x.plain(1), 5);
        no("an empty tape", () -> x.orders(1), 5);
        due("an empty tape", x.feed(0, 0, 0, 0, 0), 20);
    }

    private static void newObjectAnswersOfNothing() {
        begin(1);
        is("no stone", x.stone(), 0);
        no("nothing is otherwise", () -> x.otherwise(0), 8);
        is("nothing is barred", x.can(0), 1);
        no("nothing is barred", () -> x.barred(0, 0), 8);
        is("the largest of nothing", x.largest(0), 0);
        is("the cheapest of nothing", x.cheapest(0), 0);
        is("the least of nothing", x.least(0), 0);
        due("no fraction by 0", x.bottom(), 1);
        is("no courts", x.courts(0), 0);
        is("one town, that of no CELLS", x.towns(0), 1);
        is("none to strike", x.struck(), 0);
        no("no VILLAGE", () -> x.highest(), 8);
        is("a tray of none", x.tray(0, 0, 0));
        is("all heights of none", x.buildAll(0));
        is("an order of none", x.order(0), 0);
        is("three marks", x.mark() + x.mark() + x.mark(), 1 + 2 + 3);
    }

    private static void objectsAreApart() {
        begin(1);
        NineSights first = x;
        is("plain", plain("size 2 2;village a n;"), 4);
        is("tray", x.tray(0, 0, 3));
        newObjectHasNothing();
        due("the first one has its own", first.many(0), 2);
    }

    /** "used for at most 512 calls": the 512th is answered as the first ones are. */
    private static void fiveHundredTwelveCalls() {
        begin(1);
        is("tray", x.tray(0, 3, 60));
        for (int call = 2; call <= 508; call++) {
            x.write(0, call % 60, call);
        }
        due("the 509th", x.read(0, 508 % 60), 508);
        due("the 510th", x.mark(), 1);
        due("the 511th", x.many(3), -1);
        due("the 512th", x.status(), 5);
    }

    // ---- promise 2

    private static void statusIsOfTheLatestCallThatHasOne() {
        begin(2);
        is("a call without a FAULT", x.many(0), 0);
        no("another one", () -> x.many(3), 5);
        due("status() has none", x.status(), 5);
        due("status() has none", x.status(), 5);
        x.top();
        x.bottom();
        x.fault(0);
        x.fault(7);
        due("top, bottom, fault have none", x.status(), 5);
        for (int k = 0; k < 46; k++) {
            x.feed(0, 0, 0, 0, 0);
            due("feed has none, the refused one neither", x.status(), 5);
        }
        is("0 else", x.many(0), 0);
        for (int k = 0; k < 3; k++) {
            no("each refused call has its own", () -> x.read(4, 0), 1);
            no("each refused call has its own", () -> x.height(0), 2);
            no("each refused call has its own", () -> x.read(0, 0), 3);
        }
    }

    // ---- promises 3 and 4

    private static void fractionHasNoCommonDivisor() {
        begin(3);
        is("plain", plain("size 2 2;village a s sees 1 1;"), 4);
        is("2 of 4", x.least(1), 2);
        due("1", x.top(), 1);
        promise = 4;
        due("by 2", x.bottom(), 2);
        is("plain", plain("size 5 5;village a s sees 99 99 99 99 99;price 99 99 99 99 99;price 99 99 99 99 99;"
            + "price 99 99 99 99 99;price 99 99 99 99 99;price 99 99 99 99 99;"), 25);
        is("5 of 25, each 9,801", x.least(1), 5 * 9801);
        due("1", x.top(), 1);
        due("by 5", x.bottom(), 5);
        is("plain", plain("size 3 1;most 7 0 0;least 7 0 0;price 99 1 1;village a w sees 7;"), 3);
        is("no room at all", x.least(1), 0);
        due("the FRACTION of before", x.top(), 1);
        due("the FRACTION of before", x.bottom(), 5);
        is("plain", plain("size 3 1;most 7 0 1;least 7 0 0;price 99 1 1;village a w sees 7;"), 3);
        is("0 by 1", x.least(1), 0);
        due("0", x.top(), 0);
        due("by 1", x.bottom(), 1);
        is("plain", plain("size 1 1;village a w sees 7;"), 1);
        is("7 of 7", x.least(1), 7);
        due("1", x.top(), 1);
        due("by 1", x.bottom(), 1);
        is("plain", plain("size 2 1;most 7 3;least 0 1;price 3 5;village a w sees 7;"), 2);
        is("21 of 31", x.least(1), 21);
        due("21", x.top(), 21);
        due("by 31", x.bottom(), 31);
        no("a refused one", () -> x.least(2), 2);
        is("the TOWN at its LEAST", x.cheapest(0), 0);
        is("the largest tells none", x.largest(1), 31);
        due("told latest", x.top(), 21);
        due("told latest", x.bottom(), 31);
        is("a mark", x.mark(), 1);
        is("another FRACTION", x.least(0), 0);
        is("back", x.back(), 0);
        due("a MARK keeps none", x.top(), 0);
        due("a MARK keeps none", x.bottom(), 1);
    }

    // ---- promise 5

    private static void trayOfSoMany() {
        begin(5);
        for (int t = 0; t < 4; t++) {
            int tray = t;
            for (int sort : SORTS) {
                for (int many : new int[] {0, 1, 59, 60}) {
                    is("tray", x.tray(tray, sort, many));
                    for (int p = 0; p < many; p++) {
                        is("all 0", x.read(tray, p), 0);
                        x.write(tray, p, 77);
                    }
                    no("no place behind them", () -> x.read(tray, many), 4);
                }
                no("61", () -> x.tray(tray, sort, 61), 5);
                no("far above", () -> x.tray(tray, sort, MAX), 5);
                no("-1", () -> x.tray(tray, sort, -1), 6);
                no("far below", () -> x.tray(tray, sort, MIN), 6);
                is("all as it was", x.read(tray, 59), 77);
            }
        }
    }

    private static void noSuchTrayOrSort() {
        begin(5);
        for (int tray : NO_TRAYS) {
            no("no such TRAY", () -> x.tray(tray, 0, 1), 1);
            no("1 ahead of 5", () -> x.tray(tray, 0, 61), 1);
            no("1 ahead of 6", () -> x.tray(tray, 0, -1), 1);
            no("no such sort", () -> x.tray(0, tray, 1), 1);
            no("1 ahead of 5", () -> x.tray(0, tray, 61), 1);
            no("1 ahead of 6", () -> x.tray(0, tray, -1), 1);
        }
        no("still MISSING", () -> x.read(0, 0), 3);
        for (int t = 0; t < 4; t++) {
            is("tray", x.tray(t, t, 1));
            for (int other = t + 1; other < 4; other++) {
                int missing = other;
                no("the others stay MISSING", () -> x.read(missing, 0), 3);
            }
        }
    }

    private static void trayLaidAnew() {
        begin(5);
        is("sixty of 64 bits", x.tray(2, 3, 60));
        is("write", x.write(2, 0, Long.MAX_VALUE));
        is("write", x.write(2, 59, 5));
        is("shorter, of 8 bits", x.tray(2, 0, 59));
        is("0 again", x.read(2, 0), 0);
        no("no 60th", () -> x.read(2, 59), 4);
        is("write", x.write(2, 0, 128));
        is("of 8 bits", x.read(2, 0), -128);
        is("longer", x.tray(2, 3, 60));
        is("0 again", x.read(2, 59), 0);
        is("none", x.tray(2, 3, 0));
        no("a TRAY of none is not MISSING", () -> x.read(2, 0), 4);
    }

    // ---- promise 6

    private static void cutToItsBits() {
        begin(6);
        for (int sort : SORTS) {
            int bits = 8 << sort;
            long greatest = Long.MAX_VALUE >> 64 - bits;
            long least = Long.MIN_VALUE >> 64 - bits;
            is("tray", x.tray(sort, sort, 1));
            kept(sort, 0, 0);
            kept(sort, -1, -1);
            kept(sort, greatest, greatest);
            kept(sort, least, least);
            kept(sort, greatest + 1, least);
            kept(sort, least - 1, greatest);
            kept(sort, Long.MAX_VALUE, sort == 3 ? Long.MAX_VALUE : -1);
            kept(sort, Long.MIN_VALUE, sort == 3 ? Long.MIN_VALUE : 0);
            if (sort < 3) {
                kept(sort, 1L << bits, 0);
                kept(sort, (1L << bits) + 99, 99);
                kept(sort, (1L << bits) - 1, -1);
                kept(sort, -(1L << bits), 0);
            }
        }
    }

    private static void kept(int tray, long given, long due) {
        is("write " + given, x.write(tray, 0, given));
        is("cut to sort " + tray + ": " + given, x.read(tray, 0), due);
    }

    private static void writeRefused() {
        begin(6);
        no("MISSING", () -> x.write(0, 0, 1), 3);
        no("3 ahead of 4", () -> x.write(0, -1, 1), 3);
        is("tray", x.tray(0, 2, 3));
        for (int tray : NO_TRAYS) {
            no("no such TRAY", () -> x.write(tray, 0, 1), 1);
            no("1 ahead of 4", () -> x.write(tray, 3, 1), 1);
        }
        for (int place : new int[] {-1, 3, 60, MIN, MAX}) {
            no("no such place", () -> x.write(0, place, 1), 4);
        }
        is("the first", x.write(0, 0, 5));
        is("the last", x.write(0, 2, 6));
        is("the first", x.read(0, 0), 5);
        is("none between", x.read(0, 1), 0);
        is("the last", x.read(0, 2), 6);
        is("a TRAY of none", x.tray(1, 0, 0));
        no("no place in it", () -> x.write(1, 0, 1), 4);
    }

    // ---- promise 7

    private static void readRefused() {
        begin(7);
        no("MISSING", () -> x.read(0, 0), 3);
        no("3 ahead of 4", () -> x.read(0, MAX), 3);
        is("tray", x.tray(0, 3, 60));
        is("write", x.write(0, 59, -1));
        for (int tray : NO_TRAYS) {
            no("no such TRAY", () -> x.read(tray, 0), 1);
            no("1 ahead of 4", () -> x.read(tray, 60), 1);
        }
        for (int place : new int[] {-1, 60, MIN, MAX}) {
            no("STATUS tells NONE", () -> x.read(0, place), 4);
        }
        is("from -1", x.read(0, 59), -1);
    }

    // ---- promise 8

    private static void pourRefused() {
        begin(8);
        for (int tray : NO_TRAYS) {
            no("1 of the one", () -> x.pour(tray, 0, 0, 0, 0), 1);
            no("1 of the other", () -> x.pour(0, 0, tray, 0, 0), 1);
            no("1 ahead of 3, 6, 4", () -> x.pour(tray, -1, 0, -1, -1), 1);
            no("1 ahead of 3, 6, 4", () -> x.pour(0, -1, tray, -1, -1), 1);
        }
        is("three of 16 bits", x.tray(0, 1, 3));
        is("three of 32 bits", x.tray(1, 2, 3));
        is("five of 16 bits", x.tray(2, 1, 5));
        no("3 of the one", () -> x.pour(3, 0, 0, 0, 1), 3);
        no("3 of the other", () -> x.pour(0, 0, 3, 0, 1), 3);
        no("3 of the same", () -> x.pour(3, 0, 3, 0, 0), 3);
        no("3 ahead of 6, 4", () -> x.pour(3, -1, 0, 9, -1), 3);
        no("11", () -> x.pour(0, 0, 1, 0, 1), 11);
        no("11 of none", () -> x.pour(1, 0, 0, 0, 0), 11);
        no("11 ahead of 6, 4", () -> x.pour(0, -1, 1, 9, -1), 11);
        no("11 ahead of 4", () -> x.pour(0, 3, 1, 3, 1), 11);
        for (int many : new int[] {-1, MIN}) {
            no("6", () -> x.pour(0, 0, 2, 0, many), 6);
            no("6 ahead of 4", () -> x.pour(0, 9, 2, -1, many), 6);
        }
        for (int place : new int[] {-1, 4, MIN, MAX}) {
            no("4 of the one", () -> x.pour(0, place, 2, 0, 1), 4);
            no("4 of the other", () -> x.pour(2, 0, 0, place, 1), 4);
            no("4 of none at such a place", () -> x.pour(0, place, 2, 0, 0), 4);
            no("4 of none to such a place", () -> x.pour(2, 0, 0, place, 0), 4);
        }
        no("one too many there", () -> x.pour(0, 0, 2, 0, 4), 4);
        no("one too many here", () -> x.pour(2, 0, 0, 0, 4), 4);
        no("one too many from 1 on", () -> x.pour(0, 1, 2, 0, 3), 4);
        no("one too many to 3 on", () -> x.pour(0, 0, 2, 3, 3), 4);
        no("far too many", () -> x.pour(0, 0, 2, 0, MAX), 4);
        no("far too many from 1 on", () -> x.pour(0, 1, 2, 1, MAX), 4);
        no("far too many in all", () -> x.pour(0, MAX, 2, MAX, MAX), 4);
    }

    private static void pourAsTheyWere() {
        begin(8);
        fill(0, 1, 2, 3, 4, 5);
        is("none, behind the last", x.pour(0, 5, 0, 5, 0));
        rowIs(0, 1, 2, 3, 4, 5);
        is("all upon themselves", x.pour(0, 0, 0, 0, 5));
        rowIs(0, 1, 2, 3, 4, 5);
        is("upward over themselves", x.pour(0, 0, 0, 1, 4));
        rowIs(0, 1, 1, 2, 3, 4);
        fill(0, 1, 2, 3, 4, 5);
        is("downward over themselves", x.pour(0, 1, 0, 0, 4));
        rowIs(0, 2, 3, 4, 5, 5);
        fill(1, 9, 9, 9);
        is("the last one to the last", x.pour(0, 4, 1, 2, 1));
        rowIs(1, 9, 9, 5);
        is("just as many as fit", x.pour(0, 0, 1, 0, 3));
        rowIs(1, 2, 3, 4);
        rowIs(0, 2, 3, 4, 5, 5);
        is("sixty", x.tray(2, 3, 60) && x.tray(3, 3, 60) && x.write(2, 0, Long.MIN_VALUE) && x.write(2, 59, Long.MAX_VALUE));
        is("sixty", x.pour(2, 0, 3, 0, 60));
        is("the first", x.read(3, 0), Long.MIN_VALUE);
        is("the last", x.read(3, 59), Long.MAX_VALUE);
        no("sixty-one", () -> x.pour(2, 0, 3, 0, 61), 4);
    }

    private static void rowIs(int tray, int... row) {
        for (int k = 0; k < row.length; k++) {
            is("place " + k, x.read(tray, k), row[k]);
        }
    }

    /** What a FAULT of a text, a new PLAIN and a MARK leave of TRAYS: all. */
    private static void traysStay() {
        begin(5);
        fill(1, 4, 5);
        is("mark", x.mark(), 1);
        is("plain", plain("size 1 1;"), 1);
        rowIs(1, 4, 5);
        is("write", x.write(1, 0, 6));
        is("back", x.back(), 0);
        rowIs(1, 6, 5);
    }

    public static void main(String[] args) {
        newObjectHasNothing();
        newObjectAnswersOfNothing();
        objectsAreApart();
        fiveHundredTwelveCalls();
        statusIsOfTheLatestCallThatHasOne();
        fractionHasNoCommonDivisor();
        trayOfSoMany();
        noSuchTrayOrSort();
        trayLaidAnew();
        cutToItsBits();
        writeRefused();
        readRefused();
        pourRefused();
        pourAsTheyWere();
        traysStay();
        end();
    }
}
