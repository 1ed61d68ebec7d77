/** Boundaries of promises 43 to 47: ORDERS carried out, tallies, MARKS. */
public final class MasonsEdgeTest extends Bench {
    private static final int[] NO_SEEDS = {-1, 10000, MIN, MAX};

    private static void ordersTaken(String text) {
        feed(text);
        x.orders(text.length());
        due(text + ": taken", x.status(), 0);
    }

    /** What the ORDERS told: STEPS done, stones laid and taken, whether a STEP was left. */
    private static void builds(String text, int seed, int steps, int laid, int taken, int left) {
        ordersTaken(text);
        promise = 43;
        is(text, x.built(seed), steps);
        promise = 44;
        is(text + ": laid", x.building(0), laid);
        is(text + ": taken", x.building(1), taken);
        is(text + ": left", x.building(2), left);
    }

    // ---- promise 43

    private static void seeds() {
        begin(43);
        for (int seed : NO_SEEDS) {
            no("5 ahead of 8", () -> x.built(seed), 5);
        }
        no("no ORDERS", () -> x.built(0), 8);
        no("no ORDERS", () -> x.built(9999), 8);
        is("no STEPS", orders(""), 0);
        is("none is done", x.built(0), 0);
        is("none is done", x.built(9999), 0);
        is("plain", plain("size 2 1;"), 2);
        no("no ORDERS for another PLAIN", () -> x.built(0), 8);
        is("orders", orders("raise 0 0;"), 1);
        for (int seed : NO_SEEDS) {
            no("no seed", () -> x.built(seed), 5);
        }
        is("the first", x.built(0), 1);
        is("the last", x.built(9999), 1);
        is("both", x.height(0), 2);
        faultOfOrders("lower 0 0", 2, 9);
        is("the old ORDERS", x.built(1), 1);
        is("raised again", x.height(0), 3);
    }

    private static void raiseAndLower() {
        begin(43);
        is("plain", plain("size 2 2;most 1 1;least 5 5;"), 4);
        builds("raise 1 1;", 0, 1, 1, 0, 0);
        townIs(5, 5, 0, 1);
        builds("raise 0 1 by 1;lower 0 0;", 0, 2, 1, 1, 0);
        townIs(4, 5, 1, 1);
        builds("raise 1 0 by 94;", 0, 1, 94, 0, 0);
        townIs(4, 99, 1, 1);
        builds("raise 1 0;", 0, 1, 0, 0, 0);
        townIs(4, 99, 1, 1);
        builds("raise 0 0 by 99;", 0, 1, 95, 0, 0);
        townIs(99, 99, 1, 1);
        builds("lower 0 0 by 98;lower 0 1;", 0, 2, 0, 99, 0);
        townIs(1, 99, 0, 1);
        builds("lower 0 0 by 2;", 0, 1, 0, 1, 0);
        builds("lower 0 0;lower 0 0 by 99;", 0, 2, 0, 0, 0);
        builds("lower 1 0 by 99;", 0, 1, 0, 99, 0);
        townIs(0, 0, 0, 1);
    }

    // ---- draws

    /** The draws by so many CELLS, as the document tells them. */
    private static int[] draws(int seed, int many, int cells) {
        long s = seed;
        int[] drawn = new int[many];
        for (int k = 0; k < many; k++) {
            s = (s * 2861 + 12007) % 65536;
            drawn[k] = (int) (s / 8 % cells);
        }
        return drawn;
    }

    private static void storms() {
        begin(43);
        for (int cells = 1; cells <= 25; cells += 3) {
            int w = cells > 5 ? 5 : cells;
            int h = (cells + w - 1) / w;
            is("plain", plain("size " + w + " " + h + ";least" + times(w, 40) + ";"), w * h);
            ordersTaken("storm 1;storm 99;");
            for (int seed : new int[] {0, 1, 7, 22, 9998, 9999}) {
                int[] heights = new int[w * h];
                for (int c = 0; c < heights.length; c++) {
                    heights[c] = c < w ? 40 : 3;
                    x.build(c, heights[c]);
                }
                int taken = 0;
                for (int c : draws(seed, 100, w * h)) {
                    taken += heights[c] > 0 ? 1 : 0;
                    heights[c] = Math.max(0, heights[c] - 1);
                }
                is("built", x.built(seed), 2);
                townIs(heights);
                is("taken as far as it went", x.building(1), taken);
                is("none laid", x.building(0), 0);
            }
        }
    }

    /** By hand, the sums of the document's sentence, one of them above 65,536 and one a wrap to a small s. */
    private static void drawsByHand() {
        begin(43);
        is("plain", plain("size 5 1;least 9 9 9 9 9;"), 5);
        // seed 0: s = 12,007; by 8: 1,500; by 5: 0
        builds("storm 1;", 0, 1, 0, 1, 0);
        townIs(8, 9, 9, 9, 9);
        // seed 18: 51,498 + 12,007 = 63,505; by 8: 7,938; by 5: 3
        builds("storm 1;", 18, 1, 0, 1, 0);
        townIs(8, 9, 9, 8, 9);
        // seed 19: 54,359 + 12,007 = 66,366, less 65,536: 830; by 8: 103; by 5: 3
        builds("storm 1;", 19, 1, 0, 1, 0);
        townIs(8, 9, 9, 7, 9);
        // seed 9,999: 28,607,139 + 12,007 = 28,619,146, less 436 times 65,536: 45,450; by 8: 5,681; by 5: 1
        builds("storm 1;", 9999, 1, 0, 1, 0);
        townIs(8, 8, 9, 7, 9);
        // s goes on from storm to storm: 12,007, then 23,170; by 8: 2,896; by 5: 1
        builds("storm 1;storm 1;", 0, 2, 0, 2, 0);
        townIs(7, 7, 9, 7, 9);
        builds("storm 2;", 0, 1, 0, 2, 0);
        townIs(6, 6, 9, 7, 9);
        // and is the seed again with each built
        builds("storm 1;", 0, 1, 0, 1, 0);
        townIs(5, 6, 9, 7, 9);
        // one CELL: all draws are its own, 0 at least
        is("plain", plain("size 1 1;least 99;"), 1);
        builds("storm 98;", 5, 1, 0, 98, 0);
        townIs(1);
        builds("storm 99;", 5, 1, 0, 1, 0);
        townIs(0);
        builds("storm 99;", 5, 1, 0, 0, 0);
        townIs(0);
    }

    // ---- when

    private static final String THREE = "size 3 1;least 0 50 99;price 2 1 1;village a s sees 0 50 99;village b w;village c s sees 0 50 98;";

    private static void isSo(String test, boolean so) {
        ordersTaken("when " + test + ";stop;end;");
        is(test, x.built(0), so ? 2 : 1);
    }

    private static void compares(String what, int value, int greatest) {
        isSo(what + "=" + value, true);
        isSo(what + "<" + value, false);
        isSo(what + ">" + value, false);
        if (value > 0) {
            isSo(what + ">" + (value - 1), true);
            isSo(what + "=" + (value - 1), false);
            isSo(what + "<" + (value - 1), false);
        }
        if (value < greatest) {
            isSo(what + "<" + (value + 1), true);
            isSo(what + "=" + (value + 1), false);
            isSo(what + ">" + (value + 1), false);
        }
    }

    private static void tests() {
        begin(43);
        is("plain", plain(THREE), 3);
        compares("cell 0 0", 0, 99);
        compares("cell 1 0", 50, 99);
        compares("cell 2 0", 99, 99);
        compares("sees a at 0", 0, 99);
        compares("sees a at 1", 50, 99);
        compares("sees c at 2", 99, 99);
        compares("sees b at 0", 99, 99);
        for (String sign : new String[] {"<", ">", "="}) {
            for (int number : new int[] {0, 50, 99}) {
                isSo("sees b at 1" + sign + number, false);
                isSo("sees b at 8" + sign + number, false);
                isSo("sees a at 3" + sign + number, false);
                isSo("sees a at 8" + sign + number, false);
            }
        }
        isSo("same a", true);
        isSo("same c", false);
        isSo("same b", false);
        compares("stone", 0, 9999);
        town(99, 0, 99);
        compares("stone", 198, 9999);
        isSo("same a", false);
        is("plain", plain("size 2 2;price 99 99;price 99 99;village a s sees 0 0;"), 4);
        isSo("same a", true);
        town(98, 3, 0, 0);
        compares("stone", 9999, 9999);
        isSo("same a", false);
        town(99, 99, 99, 99);
        isSo("stone>9999", true);
        isSo("stone=9999", false);
        isSo("stone<9999", false);
        is("plain", plain("size 5 5;village a ne;"), 25);
        x.build(0, 7);
        compares("sees a at 8", 7, 99);
    }

    private static void whenAndItsSteps() {
        begin(43);
        is("plain", plain("size 2 1;village a s sees 1 0;"), 2);
        builds("when same a;raise 1 0;raise 1 0;end;raise 0 0;", 0, 2, 1, 0, 0);
        townIs(1, 0);
        builds("when same a;raise 1 0;when same a;raise 0 0;end;raise 1 0;end;raise 1 0;", 0, 5, 3, 0, 0);
        townIs(1, 3);
        builds("when same a;end;", 0, 1, 0, 0, 0);
        builds("loop 3;when cell 0 0<2;raise 0 0;end;end;", 0, 1 + 3 + 1, 1, 0, 0);
        townIs(2, 3);
    }

    // ---- loop, stop

    private static void loops() {
        begin(43);
        is("plain", plain("size 2 1;"), 2);
        builds("loop 1;raise 0 0;end;", 0, 2, 1, 0, 0);
        builds("loop 98;raise 0 0;end;", 0, 99, 98, 0, 0);
        townIs(99, 0);
        builds("loop 99;lower 0 0;end;", 0, 100, 0, 99, 0);
        townIs(0, 0);
        builds("loop 99;end;", 0, 1, 0, 0, 0);
        builds("loop 2;loop 3;loop 4;raise 1 0;end;end;end;", 0, 1 + 2 + 6 + 24, 24, 0, 0);
        townIs(0, 24);
        builds("loop 2;loop 3;raise 0 0;end;raise 1 0;end;raise 0 0;", 0, 1 + 2 + 6 + 2 + 1, 9, 0, 0);
        townIs(7, 26);
        builds("loop 3;when cell 0 0=8;stop;end;raise 0 0;end;raise 1 0;", 0, 1 + 1 + 1 + 1 + 1, 1, 0, 0);
        townIs(8, 26);
        builds("stop;", 0, 1, 0, 0, 0);
        builds("stop;raise 0 0;", 0, 1, 0, 0, 0);
        builds("raise 0 0;stop;raise 0 0;stop;", 0, 2, 1, 0, 0);
        townIs(9, 26);
        builds("loop 99;loop 99;loop 99;stop;end;end;end;raise 0 0;", 0, 4, 0, 0, 0);
        townIs(9, 26);
    }

    // ---- at most 400 STEPS

    private static void fourHundred() {
        begin(43);
        is("plain", plain("size 2 1;"), 2);
        // 397 STEPS, so that three are left
        String most = "loop 3;loop 99;lower 0 0;end;loop 31;lower 0 0;end;end;";
        builds(most, 0, 1 + 3 * (1 + 99 + 1 + 31), 0, 0, 0);
        builds(most + "raise 0 0;", 0, 398, 1, 0, 0);
        builds(most + "raise 0 0;raise 0 0;raise 0 0;", 0, 400, 3, 1, 0);
        builds(most + "raise 0 0;raise 0 0;raise 0 0;raise 1 0;", 0, 400, 3, 3, 1);
        is("the 401st was not done", x.height(1), 0);
        builds(most + "raise 0 0;raise 0 0;stop;raise 1 0;", 0, 400, 2, 3, 0);
        builds(most + "raise 0 0;raise 0 0;raise 0 0;stop;", 0, 400, 3, 2, 1);
        builds(most + "raise 0 0;raise 0 0;loop 9;end;", 0, 400, 2, 3, 0);
        builds(most + "raise 0 0;raise 0 0;loop 9;raise 1 0;end;", 0, 400, 2, 2, 1);
        is("the 401st was not done", x.height(1), 0);
        builds(most + "raise 0 0;raise 0 0;when cell 0 0=2;raise 1 0;end;", 0, 400, 2, 2, 1);
        builds(most + "raise 0 0;raise 0 0;when cell 0 0=9;raise 1 0;end;", 0, 400, 2, 2, 0);
        builds(most + "raise 0 0;raise 0 0;raise 0 0;when cell 0 0=9;end;", 0, 400, 3, 2, 1);
        builds(most + "raise 0 0;raise 0 0;raise 0 0;loop 1;end;", 0, 400, 3, 3, 1);
        is("none of them reached the other", x.height(1), 0);
    }

    private static void fourHundredWithin() {
        begin(43);
        is("plain", plain("size 2 1;"), 2);
        builds("loop 99;lower 0 0;lower 0 0;lower 0 0;lower 0 0;end;", 0, 397, 0, 0, 0);
        builds("loop 2;loop 99;raise 1 0;lower 1 0;end;end;", 0, 1 + 2 + 2 * 198, 198, 198, 0);
        builds("loop 2;loop 99;raise 1 0;lower 1 0;end;end;stop;", 0, 400, 198, 198, 0);
        builds("loop 2;loop 99;raise 1 0;lower 1 0;end;end;raise 0 0;", 0, 400, 199, 198, 0);
        builds("loop 3;loop 99;raise 1 0;lower 1 0;end;end;", 0, 400, 198, 198, 1);
        builds("stop;loop 3;end;", 0, 1, 0, 0, 0);
        builds("loop 99;loop 99;loop 99;end;end;end;", 0, 400, 0, 0, 1);
        builds("loop 99;loop 99;loop 99;storm 99;end;end;end;", 0, 400, 0, 1, 1);
        townIs(0, 0);
        builds("loop 99;loop 99;loop 99;raise 0 0;end;end;end;", 9, 400, 99, 0, 1);
        townIs(99, 0);
    }

    // ---- promise 44

    private static void building() {
        begin(44);
        for (int what : new int[] {-1, 3, MIN, MAX}) {
            no("5 ahead of 8", () -> x.building(what), 5);
        }
        for (int what = 0; what < 3; what++) {
            int asked = what;
            no("there was none", () -> x.building(asked), 8);
        }
        is("plain", plain("size 1 1;"), 1);
        is("orders", orders("raise 0 0 by 3;lower 0 0;"), 2);
        is("tally", x.tally(0, 30), 30);
        no("tally() is no built()", () -> x.building(0), 8);
        no("a refused one is none", () -> x.built(10000), 5);
        no("still none", () -> x.building(2), 8);
        is("mark", x.mark(), 1);
        is("built", x.built(0), 2);
        for (int what : new int[] {-1, 3, MIN, MAX}) {
            no("what", () -> x.building(what), 5);
        }
        told(3, 1);
        is("back", x.back(), 0);
        told(3, 1);
        is("orders", orders("stop;"), 1);
        told(3, 1);
        is("plain", plain("size 1 1;"), 1);
        told(3, 1);
        no("8 changes nothing", () -> x.built(0), 8);
        told(3, 1);
        is("no STEPS", orders(""), 0);
        is("built", x.built(0), 0);
        told(0, 0);
    }

    private static void told(int laid, int taken) {
        is("laid", x.building(0), laid);
        is("taken", x.building(1), taken);
        is("none left", x.building(2), 0);
    }

    // ---- promise 45

    private static void tallyRefused() {
        begin(45);
        no("no ORDERS", () -> x.tally(0, 1), 8);
        for (int seed : NO_SEEDS) {
            no("5 ahead of 8", () -> x.tally(seed, 1), 5);
        }
        for (int many : new int[] {-1, 0, 31, MIN, MAX}) {
            no("5 ahead of 8", () -> x.tally(0, many), 5);
        }
        is("plain", plain("size 1 1;village a s sees 0;"), 1);
        no("no ORDERS", () -> x.tally(0, 30), 8);
        is("orders", orders(""), 0);
        for (int seed : NO_SEEDS) {
            for (int many : new int[] {1, 30, MIN, MAX}) {
                no("no seed", () -> x.tally(seed, many), 5);
            }
        }
        for (int many : new int[] {-1, 0, 31, MIN, MAX}) {
            no("so many", () -> x.tally(0, many), 5);
            no("so many", () -> x.tally(9999, many), 5);
        }
        for (int many = 1; many <= 30; many++) {
            int seeds = many;
            is("the last is 9,999", x.tally(10000 - many, many), many);
            no("the last above 9,999", () -> x.tally(10001 - seeds, seeds), 5);
            is("from the first on", x.tally(0, many), many);
        }
    }

    private static void tally() {
        begin(45);
        is("plain", plain("size 2 1;least 1 1;village a s sees 1 0;village b e;"), 2);
        is("orders", orders("storm 1;"), 1);
        for (int from : new int[] {0, 1, 500, 9970}) {
            int good = 0;
            for (int seed = from; seed < from + 30; seed++) {
                good += draws(seed, 1, 2)[0];
                is("so far", x.tally(from, seed - from + 1), good);
            }
        }
        townIs(1, 1);
        is("orders", orders("raise 0 0;"), 1);
        is("none is as promised", x.tally(0, 30), 0);
        is("orders", orders("lower 1 0;"), 1);
        is("each time from the TOWN as it is now", x.tally(0, 30), 30);
        townIs(1, 1);
        is("built", x.built(0), 1);
        is("as it is now", x.tally(0, 30), 30);
        is("plain", plain("size 2 1;village a s;"), 2);
        is("orders", orders("storm 1;raise 0 0;"), 2);
        is("no SKYLINE", x.tally(0, 30), 30);
        is("plain", plain("size 2 1;village a s sees 0 0;village b n sees 0 1;"), 2);
        is("orders", orders(""), 0);
        is("all SKYLINES", x.tally(0, 30), 0);
        is("plain", plain("size 2 1;village a s sees 0 1;village b n sees 1 0;"), 2);
        is("orders", orders("raise 1 0;"), 1);
        is("all SKYLINES", x.tally(0, 30), 30);
        is("orders", orders("raise 1 0;loop 99;loop 99;end;end;loop 99;loop 99;end;end;loop 99;loop 99;end;end;loop 99;loop 99;end;"
            + "end;loop 1;loop 1;loop 1;raise 1 0;end;end;end;"), 13);
        is("but for what is left behind 400", x.tally(0, 30), 30);
    }

    // ---- promises 46 and 47

    private static void threeMarks() {
        begin(46);
        no("none to go back to", () -> x.back(), 8);
        is("one", x.mark(), 1);
        is("two", x.mark(), 2);
        is("three", x.mark(), 3);
        no("a fourth", () -> x.mark(), 7);
        no("a fourth, again", () -> x.mark(), 7);
        promise = 47;
        is("two left", x.back(), 2);
        promise = 46;
        is("three again", x.mark(), 3);
        no("a fourth", () -> x.mark(), 7);
        promise = 47;
        is("two left", x.back(), 2);
        is("one left", x.back(), 1);
        is("none left", x.back(), 0);
        no("none to go back to", () -> x.back(), 8);
        promise = 46;
        is("one", x.mark(), 1);
    }

    private static void allIsTakenBack() {
        begin(47);
        is("of nothing", x.mark(), 1);
        is("plain", plain("size 2 1;most 8 9;least 1 2;price 3 4;village a s sees 5 6;village b ne;"), 2);
        is("orders", orders("raise 0 0 by 2;"), 1);
        town(7, 8);
        is("of a PLAIN", x.mark(), 2);
        is("another PLAIN", plain("size 5 5;village zz w sees 1 1 1 1 1;"), 25);
        is("of another", x.mark(), 3);
        is("build", x.build(24, 9));
        is("orders", orders("stop;"), 1);
        no("a refused one keeps nothing", () -> x.mark(), 7);
        is("the latest", x.back(), 2);
        is("its PLAIN", x.many(0), 5);
        is("its TOWN", x.height(24), 0);
        no("no ORDERS", () -> x.built(0), 8);
        is("the one ahead of it", x.back(), 1);
        isTheFirstPlain();
        is("marked again", x.mark(), 2);
        is("built", x.built(0), 1);
        is("raised", x.height(0), 9);
        is("back", x.back(), 1);
        isTheFirstPlain();
        is("of nothing", x.back(), 0);
        for (int what = 0; what < 3; what++) {
            is("no PLAIN", x.many(what), 0);
        }
        no("no TOWN", () -> x.height(0), 2);
        no("no ORDERS", () -> x.built(0), 8);
        faultOfOrders("when same a;end;", 3, 10);
        faultOfOrders("raise 0 0;", 4, 6);
    }

    private static void isTheFirstPlain() {
        is("width", x.many(0), 2);
        is("height", x.many(1), 1);
        is("villages", x.many(2), 2);
        int[][] cells = {{8, 1, 3}, {9, 2, 4}};
        for (int c = 0; c < 2; c++) {
            for (int what = 0; what < 3; what++) {
                is("cell", x.cell(c, what), cells[c][what]);
            }
        }
        no("no third", () -> x.cell(2, 0), 2);
        is("side", x.village(1, 0), 1);
        is("promised", x.promised(0, 1), 6);
        no("no SKYLINE", () -> x.promised(1, 0), 8);
        is("strip", x.strip(1, 0), 1);
        townIs(7, 8);
        is("its ORDERS", Told.copy(x).built(0), 1);
        faultOfOrders("when same zz;end;", 3, 10);
    }

    /** TRAYS, the tape, STATUS, the FRACTION and what was told latest are none of it. */
    private static void whatNoMarkKeeps() {
        begin(47);
        is("plain", plain("size 2 1;village a w sees 3;"), 2);
        is("mark", x.mark(), 1);
        feed("size 1 1;");
        fill(0, 0, 3);
        is("cheapest", x.cheapest(1), 3);
        is("least", x.least(1), 3);
        fill(1, 3, 0);
        is("order", x.order(1), 2);
        is("back", x.back(), 0);
        due("the FRACTION", x.bottom(), 2);
        is("the order", x.orderAt(1), 1);
        is("a TRAY", x.read(0, 1), 3);
        townIs(0, 0);
        is("the tape", x.plain(9), 1);
    }

    public static void main(String[] args) {
        seeds();
        raiseAndLower();
        storms();
        drawsByHand();
        tests();
        whenAndItsSteps();
        loops();
        fourHundred();
        fourHundredWithin();
        building();
        tallyRefused();
        tally();
        threeMarks();
        allIsTakenBack();
        whatNoMarkKeeps();
        end();
    }
}
