import java.util.Arrays;

/** A town of heights on a plain, and the skylines that villages at its sides were promised. */
public final class NineSights {
    public static final int NONE = -1;

    private static final int NO_TRAY = 1;
    private static final int NO_SUCH_PART = 2;
    private static final int MISSING = 3;
    private static final int TOO_FEW = 4;
    private static final int WRONG_NUMBER = 5;
    private static final int BELOW_ZERO = 6;
    private static final int ONE_TOO_MANY = 7;
    private static final int THERE_IS_NONE = 8;
    private static final int CANNOT_BE = 9;
    private static final int FAULTY = 10;
    private static final int UNLIKE_SORTS = 11;

    private static final int MAX_TRAYS = 4;
    private static final int MAX_NUMBERS = 60;
    private static final int MAX_TAPE = 900;
    private static final int MAX_ORDERS_TEXT = 300;
    private static final int MAX_SIZE = 5;
    private static final int MAX_CELLS = 25;
    private static final int MAX_VILLAGES = 6;
    private static final int MAX_STRIPS = 9;
    private static final int MAX_VIEWS = 54;
    private static final int MAX_HEIGHT = 99;
    private static final int MAX_SEED = 9999;
    private static final int MAX_TALLY = 30;
    private static final int MAX_MARKS = 3;
    private static final int MAX_TOWNS_STRIPS = 16;
    private static final int MAX_ORDER_CELLS = 12;
    private static final int MAX_STEPS = 30;
    private static final int MAX_ACTS = 60;
    private static final int MAX_DEPTH = 3;
    private static final int MAX_LETTERS = 8;
    private static final int MAX_DIGITS = 4;
    private static final int MAX_AMOUNT = 99;
    private static final int MAX_STONE = 9999;
    private static final int MAX_STEPS_DONE = 400;
    private static final int SIDES = 8;

    private static final String WORDS =
        "size most least price village sees raise lower by storm when cell at same stone loop end stop n ne e se s sw w nw ";
    private static final int WORD_COUNT = 26;
    private static final int SIZE = 0;
    private static final int MOST = 1;
    private static final int LEAST = 2;
    private static final int PRICE = 3;
    private static final int VILLAGE = 4;
    private static final int SEES = 5;
    private static final int RAISE = 6;
    private static final int LOWER = 7;
    private static final int BY = 8;
    private static final int STORM = 9;
    private static final int WHEN = 10;
    private static final int CELL = 11;
    private static final int AT = 12;
    private static final int SAME = 13;
    private static final int STONE = 14;
    private static final int LOOP = 15;
    private static final int END = 16;
    private static final int STOP = 17;
    private static final int FIRST_SIDE = 18;

    private final Tray[] trays = new Tray[MAX_TRAYS];
    private final byte[] tape = new byte[MAX_TAPE];
    private final PlainReader plainReader = new PlainReader();
    private final OrdersReader ordersReader = new OrdersReader();
    private final World now = new World();
    private final World[] marks = new World[MAX_MARKS];
    private final Sights sights = new Sights();
    private final Couple couple = new Couple();
    private final Mason mason = new Mason();
    private final int[] views = new int[MAX_VIEWS];
    private final int[] heights = new int[MAX_CELLS];
    private final int[] lastBuilding = {NONE, NONE, NONE};
    private final long[] fraction = {0, 1};
    private final int[] lastFault = {NONE, NONE};
    private int taped;
    private int markCount;
    private int lastStatus;

    public NineSights() {
        for (int t = 0; t < MAX_TRAYS; t++) {
            trays[t] = new Tray();
        }
        for (int m = 0; m < MAX_MARKS; m++) {
            marks[m] = new World();
        }
    }

    public int status() {
        return lastStatus;
    }

    public long top() {
        return fraction[0];
    }

    public long bottom() {
        return fraction[1];
    }

    // ---- TRAYS

    public boolean tray(int tray, int sort, int many) {
        if (!isTray(tray) || sort < 0 || sort > 3) {
            return isDone(NO_TRAY);
        }
        if (many > MAX_NUMBERS) {
            return isDone(WRONG_NUMBER);
        }
        if (many < 0) {
            return isDone(BELOW_ZERO);
        }
        trays[tray].lay(sort, many);
        return isDone(0);
    }

    public boolean write(int tray, int place, long v) {
        int why = trayPlaceStatus(tray, place);
        if (why == 0) {
            trays[tray].put(place, v);
        }
        return isDone(why);
    }

    public long read(int tray, int place) {
        int why = trayPlaceStatus(tray, place);
        if (why != 0) {
            return refused(why);
        }
        lastStatus = 0;
        return trays[tray].numbers[place];
    }

    public boolean pour(int tray, int i, int to, int j, int many) {
        if (!isTray(tray) || !isTray(to)) {
            return isDone(NO_TRAY);
        }
        Tray from = trays[tray];
        Tray into = trays[to];
        if (!from.there || !into.there) {
            return isDone(MISSING);
        }
        if (from.sort != into.sort) {
            return isDone(UNLIKE_SORTS);
        }
        if (many < 0) {
            return isDone(BELOW_ZERO);
        }
        if (!from.hasPlaces(i, many) || !into.hasPlaces(j, many)) {
            return isDone(TOO_FEW);
        }
        System.arraycopy(from.numbers, i, into.numbers, j, many);
        return isDone(0);
    }

    // ---- texts

    public int feed(int a, int b, int c, int d, int e) {
        if (taped + 20 > MAX_TAPE) {
            return NONE;
        }
        putBytes(a);
        putBytes(b);
        putBytes(c);
        putBytes(d);
        putBytes(e);
        return taped;
    }

    public int plain(int n) {
        if (n < 0 || n > taped) {
            return refused(WRONG_NUMBER);
        }
        taped = 0;
        boolean taken = plainReader.readPlain(tape, n);
        tellFault(plainReader.reader);
        if (!taken) {
            return refused(FAULTY);
        }
        now.settle(plainReader.made);
        return answered(now.plain.cells);
    }

    public int orders(int n) {
        if (n < 0 || n > taped || n > MAX_ORDERS_TEXT) {
            return refused(WRONG_NUMBER);
        }
        taped = 0;
        boolean taken = ordersReader.readOrders(tape, n, now.plain);
        tellFault(ordersReader.reader);
        if (!taken) {
            return refused(FAULTY);
        }
        now.orders.copyFrom(ordersReader.made);
        return answered(now.orders.steps);
    }

    public int fault(int what) {
        return what == 0 || what == 1 ? lastFault[what] : NONE;
    }

    public int many(int what) {
        switch (what) {
            case 0:
                return answered(now.plain.width);
            case 1:
                return answered(now.plain.depth);
            case 2:
                return answered(now.plain.villages);
            default:
                return refused(WRONG_NUMBER);
        }
    }

    public int cell(int cell, int what) {
        Plain plain = now.plain;
        if (!plain.hasCell(cell)) {
            return refused(NO_SUCH_PART);
        }
        switch (what) {
            case 0:
                return answered(plain.most[cell]);
            case 1:
                return answered(plain.least[cell]);
            case 2:
                return answered(plain.price[cell]);
            default:
                return refused(WRONG_NUMBER);
        }
    }

    public int village(int village, int what) {
        Plain plain = now.plain;
        if (!plain.hasVillage(village)) {
            return refused(NO_SUCH_PART);
        }
        switch (what) {
            case 0:
                return answered(plain.sides[village]);
            case 1:
                return answered(plain.stripsOf(village));
            case 2:
                return answered(plain.hasSky(village) ? 1 : 0);
            default:
                return refused(WRONG_NUMBER);
        }
    }

    public int promised(int village, int strip) {
        Plain plain = now.plain;
        if (!plain.hasStrip(village, strip)) {
            return refused(NO_SUCH_PART);
        }
        if (!plain.hasSky(village)) {
            return refused(THERE_IS_NONE);
        }
        return answered(plain.promises[village * MAX_STRIPS + strip]);
    }

    public int strip(int side, int cell) {
        if (side < 0 || side >= SIDES || !now.plain.hasCell(cell)) {
            return refused(NO_SUCH_PART);
        }
        return answered(now.plain.stripAt(side, cell));
    }

    // ---- the TOWN

    public int height(int cell) {
        if (!now.plain.hasCell(cell)) {
            return refused(NO_SUCH_PART);
        }
        return answered(now.town[cell]);
    }

    public boolean build(int cell, int height) {
        if (!now.plain.hasCell(cell)) {
            return isDone(NO_SUCH_PART);
        }
        if (!isHeight(height)) {
            return isDone(WRONG_NUMBER);
        }
        now.town[cell] = height;
        return isDone(0);
    }

    public boolean buildAll(int tray) {
        int why = trayRowStatus(tray, now.plain.cells);
        if (why == 0) {
            trays[tray].copyHeights(0, now.plain.cells, now.town, 0);
        }
        return isDone(why);
    }

    public int seen(int village, int strip) {
        if (!now.plain.hasStrip(village, strip)) {
            return refused(NO_SUCH_PART);
        }
        return answered(now.plain.sightOf(village, strip, now.town));
    }

    public int otherwise(int what) {
        if (what != 0 && what != 1) {
            return refused(WRONG_NUMBER);
        }
        int village = now.plain.firstUnlikeVillage(now.town);
        if (village == NONE) {
            return refused(THERE_IS_NONE);
        }
        return answered(what == 0 ? village : now.plain.firstUnlikeStrip(village, now.town));
    }

    public int stone() {
        return answered(now.plain.stoneOf(now.town));
    }

    // ---- promises

    public int cap(int cell, int set) {
        if (!now.plain.hasCell(cell) || !now.plain.hasSet(set)) {
            return refused(NO_SUCH_PART);
        }
        sights.wantPromises(now.plain, set);
        return answered(sights.caps[cell]);
    }

    public int can(int set) {
        if (!now.plain.hasSet(set)) {
            return refused(NO_SUCH_PART);
        }
        return answered(canKeep(set) ? 1 : 0);
    }

    public int barred(int set, int what) {
        if (!now.plain.hasSet(set)) {
            return refused(NO_SUCH_PART);
        }
        if (what < 0 || what > 2) {
            return refused(WRONG_NUMBER);
        }
        if (canKeep(set)) {
            return refused(THERE_IS_NONE);
        }
        return answered(sights.bar[what]);
    }

    public int largest(int set) {
        int why = keptStatus(set);
        if (why != 0) {
            return refused(why);
        }
        System.arraycopy(sights.caps, 0, now.town, 0, now.plain.cells);
        return answered(now.plain.stoneOf(now.town));
    }

    public int cheapest(int set) {
        int why = keptStatus(set);
        if (why != 0) {
            return refused(why);
        }
        sights.cheapestTown(now.plain, now.town);
        return answered(now.plain.stoneOf(now.town));
    }

    public int least(int set) {
        int why = keptStatus(set);
        if (why != 0) {
            return refused(why);
        }
        sights.cheapestTown(now.plain, heights);
        int low = now.plain.stoneOf(heights);
        int high = now.plain.stoneOf(sights.caps);
        tellFraction(low, high);
        return answered(low);
    }

    public int courts(int set) {
        int why = keptStatus(set);
        if (why != 0) {
            return refused(why);
        }
        return answered(now.plain.cells - sights.fewestRaised(now.plain));
    }

    public int towns(int set) {
        if (!now.plain.hasSet(set)) {
            return refused(NO_SUCH_PART);
        }
        if (now.plain.stripsPromised(set) > MAX_TOWNS_STRIPS) {
            return refused(ONE_TOO_MANY);
        }
        return answered(canKeep(set) ? sights.countTowns(now.plain) : 0);
    }

    public int sure(int set, int cell, int what) {
        if (!now.plain.hasSet(set) || !now.plain.hasCell(cell)) {
            return refused(NO_SUCH_PART);
        }
        if (what != 0 && what != 1) {
            return refused(WRONG_NUMBER);
        }
        if (!canKeep(set)) {
            return refused(CANNOT_BE);
        }
        boolean high = what == 1 || sights.mustRaise(now.plain, cell);
        return answered(high ? sights.caps[cell] : now.plain.least[cell]);
    }

    public int struck() {
        int all = (1 << now.plain.villages) - 1;
        int best = NONE;
        for (int set = 0; set <= all; set++) {
            boolean fewer = best == NONE || Integer.bitCount(set) < Integer.bitCount(best);
            if (fewer && canKeep(all & ~set)) {
                best = set;
            }
        }
        return best == NONE ? refused(CANNOT_BE) : answered(best);
    }

    // ---- one tower, two towns

    public int down(int cell) {
        Plain plain = now.plain;
        if (!plain.hasCell(cell)) {
            return refused(NO_SUCH_PART);
        }
        System.arraycopy(now.town, 0, heights, 0, plain.cells);
        heights[cell] = Math.min(heights[cell], plain.least[cell]);
        int unlike = 0;
        for (int v = 0; v < plain.villages; v++) {
            int s = plain.stripAt(plain.sides[v], cell);
            if (plain.sightOf(v, s, heights) != plain.sightOf(v, s, now.town)) {
                unlike++;
            }
        }
        return answered(unlike);
    }

    public int instead(int cell) {
        Plain plain = now.plain;
        if (!plain.hasCell(cell)) {
            return refused(NO_SUCH_PART);
        }
        sights.wantViews(plain, now.town);
        sights.keepLow(plain, cell);
        if (!sights.canBeKept(plain)) {
            return refused(CANNOT_BE);
        }
        sights.cheapestTown(plain, heights);
        return answered(plain.stoneOf(heights));
    }

    public int apart(int one, int other, int village) {
        if (!isTray(one) || !isTray(other)) {
            return refused(NO_TRAY);
        }
        Plain plain = now.plain;
        if (!plain.hasVillage(village)) {
            return refused(NO_SUCH_PART);
        }
        int why = coupleStatus(trays[one], trays[other], plain.cells);
        if (why != 0) {
            return refused(why);
        }
        trays[one].copyHeights(0, plain.cells, couple.one, 0);
        trays[other].copyHeights(0, plain.cells, couple.other, 0);
        int strip = couple.firstStripApart(plain, village);
        return strip == NONE ? refused(THERE_IS_NONE) : answered(strip);
    }

    public int watchers(int tray, int many) {
        int why = toldStatus(tray, many, 2, 4, now.plain.cells);
        if (why != 0) {
            return refused(why);
        }
        int best = couple.fewestWatchers(now.plain, trays[tray], many);
        return best == NONE ? refused(CANNOT_BE) : answered(best);
    }

    public int tenth(int tray, int many) {
        int why = toldStatus(tray, many, 1, MAX_STRIPS, 1);
        if (why != 0) {
            return refused(why);
        }
        int set = 0;
        for (int side = 0; side < SIDES; side++) {
            if (now.plain.stripsFrom(side) == many) {
                now.plain.lookFrom(side, now.town, views, 0);
                set |= trays[tray].beginsLike(views, many) ? 1 << side : 0;
            }
        }
        return answered(set);
    }

    public int order(int tray) {
        Plain plain = now.plain;
        int why = trayRowStatus(tray, plain.cells);
        if (why != 0) {
            return refused(why);
        }
        System.arraycopy(now.town, 0, couple.one, 0, plain.cells);
        trays[tray].copyHeights(0, plain.cells, couple.other, 0);
        if (couple.cellsUnlike(plain) > MAX_ORDER_CELLS) {
            return refused(ONE_TOO_MANY);
        }
        if (!couple.looksAlike(plain)) {
            return refused(CANNOT_BE);
        }
        couple.findOrder(plain);
        return answered(couple.orderCount);
    }

    public int orderAt(int k) {
        if (k < 0 || k >= couple.orderCount) {
            return refused(THERE_IS_NONE);
        }
        return answered(couple.orderCells[k]);
    }

    public int like(int tray, int many) {
        int why = toldStatus(tray, many, 1, MAX_STRIPS, 1);
        if (why != 0) {
            return refused(why);
        }
        Plain plain = now.plain;
        if (plain.villages == 0) {
            return refused(THERE_IS_NONE);
        }
        for (int v = 0; v < plain.villages; v++) {
            if (plain.stripsOf(v) != many) {
                return refused(CANNOT_BE);
            }
            trays[tray].copyHeights(0, many, views, v * MAX_STRIPS);
        }
        sights.wantFromAll(plain, views);
        return answered(sights.canBeKept(plain) ? 1 : 0);
    }

    /** Above the lowest sight of the MOSTS a strip fails; below it no LEAST fits better. */
    public int highest() {
        Plain plain = now.plain;
        if (plain.villages == 0) {
            return refused(THERE_IS_NONE);
        }
        int height = plain.lowestSight(plain.most);
        Arrays.fill(views, height);
        sights.wantFromAll(plain, views);
        return sights.canBeKept(plain) ? answered(height) : refused(THERE_IS_NONE);
    }

    // ---- masons

    public int built(int seed) {
        if (!isSeed(seed)) {
            return refused(WRONG_NUMBER);
        }
        if (!now.orders.there) {
            return refused(THERE_IS_NONE);
        }
        mason.work(now.orders, now.plain, now.town, seed);
        lastBuilding[0] = mason.laid;
        lastBuilding[1] = mason.taken;
        lastBuilding[2] = mason.left;
        return answered(mason.steps);
    }

    public int building(int what) {
        if (what < 0 || what > 2) {
            return refused(WRONG_NUMBER);
        }
        int told = lastBuilding[what];
        return told == NONE ? refused(THERE_IS_NONE) : answered(told);
    }

    public int tally(int seed, int many) {
        if (!isSeed(seed) || many < 1 || many > MAX_TALLY || !isSeed(seed + many - 1)) {
            return refused(WRONG_NUMBER);
        }
        if (!now.orders.there) {
            return refused(THERE_IS_NONE);
        }
        int good = 0;
        for (int k = 0; k < many; k++) {
            System.arraycopy(now.town, 0, heights, 0, MAX_CELLS);
            mason.work(now.orders, now.plain, heights, seed + k);
            good += now.plain.firstUnlikeVillage(heights) == NONE ? 1 : 0;
        }
        return answered(good);
    }

    // ---- MARKS

    public int mark() {
        if (markCount >= MAX_MARKS) {
            return refused(ONE_TOO_MANY);
        }
        marks[markCount].copyFrom(now);
        markCount++;
        return answered(markCount);
    }

    public int back() {
        if (markCount <= 0) {
            return refused(THERE_IS_NONE);
        }
        markCount--;
        now.copyFrom(marks[markCount]);
        return answered(markCount);
    }

    // ---- what a call answers

    private int answered(int value) {
        lastStatus = 0;
        return value;
    }

    private int refused(int why) {
        lastStatus = why;
        return NONE;
    }

    private boolean isDone(int why) {
        lastStatus = why;
        return why == 0;
    }

    private void putBytes(int four) {
        for (int shift = 24; shift >= 0 && taped < MAX_TAPE; shift -= 8) {
            tape[taped] = (byte) (four >> shift);
            taped++;
        }
    }

    private void tellFault(Reader reader) {
        lastFault[0] = reader.fault;
        lastFault[1] = reader.faultPlace;
    }

    private void tellFraction(int upper, int lower) {
        int divisor = commonDivisor(upper, lower);
        if (lower > 0 && divisor > 0) {
            fraction[0] = upper / divisor;
            fraction[1] = lower / divisor;
        }
    }

    private static int commonDivisor(int upper, int lower) {
        int a = lower;
        int b = upper;
        for (int turn = 0; turn < 100 && b != 0; turn++) {
            int rest = a % b;
            a = b;
            b = rest;
        }
        return a;
    }

    // ---- what is asked ahead of an answer

    private static boolean isTray(int tray) {
        return tray >= 0 && tray < MAX_TRAYS;
    }

    private static boolean isHeight(long height) {
        return height >= 0 && height <= MAX_HEIGHT;
    }

    private static boolean isSeed(int seed) {
        return seed >= 0 && seed <= MAX_SEED;
    }

    private int trayPlaceStatus(int tray, int place) {
        if (!isTray(tray)) {
            return NO_TRAY;
        }
        if (!trays[tray].there) {
            return MISSING;
        }
        return trays[tray].hasPlaces(place, 1) ? 0 : TOO_FEW;
    }

    private int trayRowStatus(int tray, int cells) {
        if (!isTray(tray)) {
            return NO_TRAY;
        }
        return trays[tray].there ? trays[tray].rowStatus(cells) : MISSING;
    }

    /** For the calls that take so many rows, or heights, from a TRAY. */
    private int toldStatus(int tray, int many, int fewest, int mostOfThem, int numbersEach) {
        if (!isTray(tray)) {
            return NO_TRAY;
        }
        if (!trays[tray].there) {
            return MISSING;
        }
        if (many < fewest || many > mostOfThem) {
            return WRONG_NUMBER;
        }
        return trays[tray].rowStatus(many * numbersEach);
    }

    private static int coupleStatus(Tray one, Tray other, int cells) {
        if (!one.there || !other.there) {
            return MISSING;
        }
        int why = one.rowStatus(cells);
        int otherWhy = other.rowStatus(cells);
        if (why == TOO_FEW || otherWhy == TOO_FEW) {
            return TOO_FEW;
        }
        return why != 0 ? why : otherWhy;
    }

    private int keptStatus(int set) {
        if (!now.plain.hasSet(set)) {
            return NO_SUCH_PART;
        }
        return canKeep(set) ? 0 : CANNOT_BE;
    }

    private boolean canKeep(int set) {
        sights.wantPromises(now.plain, set);
        return sights.canBeKept(now.plain);
    }

    private static final class Tray {
        boolean there;
        int sort;
        int length;
        final long[] numbers = new long[MAX_NUMBERS];

        void lay(int newSort, int many) {
            there = true;
            sort = newSort;
            length = many;
            Arrays.fill(numbers, 0L);
        }

        boolean hasPlaces(int from, int many) {
            return from >= 0 && many >= 0 && (long) from + many <= length;
        }

        void put(int place, long v) {
            switch (sort) {
                case 0:
                    numbers[place] = (byte) v;
                    break;
                case 1:
                    numbers[place] = (short) v;
                    break;
                case 2:
                    numbers[place] = (int) v;
                    break;
                default:
                    numbers[place] = v;
                    break;
            }
        }

        /** Whether the first so many numbers are there, and are heights. */
        int rowStatus(int many) {
            if (!hasPlaces(0, many)) {
                return TOO_FEW;
            }
            for (int k = 0; k < many; k++) {
                if (!isHeight(numbers[k])) {
                    return WRONG_NUMBER;
                }
            }
            return 0;
        }

        void copyHeights(int from, int many, int[] into, int place) {
            for (int k = 0; k < many; k++) {
                into[place + k] = (int) numbers[from + k];
            }
        }

        boolean beginsLike(int[] row, int many) {
            for (int k = 0; k < many; k++) {
                if (numbers[k] != row[k]) {
                    return false;
                }
            }
            return true;
        }
    }

    private static final class Plain {
        int width;
        int depth;
        int cells;
        int villages;
        int skies;
        final int[] most = new int[MAX_CELLS];
        final int[] least = new int[MAX_CELLS];
        final int[] price = new int[MAX_CELLS];
        final long[] names = new long[MAX_VILLAGES];
        final int[] sides = new int[MAX_VILLAGES];
        final int[] promises = new int[MAX_VIEWS];
        private final int[] strips = new int[SIDES * MAX_CELLS];
        private final int[] view = new int[MAX_STRIPS];

        void begin(int newWidth, int newDepth) {
            width = newWidth;
            depth = newDepth;
            cells = width * depth;
            villages = 0;
            skies = 0;
            Arrays.fill(most, MAX_HEIGHT);
            Arrays.fill(least, 0);
            Arrays.fill(price, 1);
            for (int y = 0; y < depth; y++) {
                for (int x = 0; x < width; x++) {
                    for (int side = 0; side < SIDES; side++) {
                        strips[side * MAX_CELLS + y * width + x] = stripOf(side, x, y);
                    }
                }
            }
        }

        private int stripOf(int side, int x, int y) {
            switch (side) {
                case 0:
                    return width - 1 - x;
                case 1:
                    return width + depth - 2 - x - y;
                case 2:
                    return depth - 1 - y;
                case 3:
                    return depth - 1 + x - y;
                case 4:
                    return x;
                case 5:
                    return x + y;
                case 6:
                    return y;
                default:
                    return width - 1 - x + y;
            }
        }

        void copyFrom(Plain other) {
            width = other.width;
            depth = other.depth;
            cells = other.cells;
            villages = other.villages;
            skies = other.skies;
            System.arraycopy(other.most, 0, most, 0, MAX_CELLS);
            System.arraycopy(other.least, 0, least, 0, MAX_CELLS);
            System.arraycopy(other.price, 0, price, 0, MAX_CELLS);
            System.arraycopy(other.names, 0, names, 0, MAX_VILLAGES);
            System.arraycopy(other.sides, 0, sides, 0, MAX_VILLAGES);
            System.arraycopy(other.promises, 0, promises, 0, MAX_VIEWS);
            System.arraycopy(other.strips, 0, strips, 0, SIDES * MAX_CELLS);
        }

        boolean hasCell(int cell) {
            return cell >= 0 && cell < cells;
        }

        boolean hasVillage(int village) {
            return village >= 0 && village < villages;
        }

        boolean hasSky(int village) {
            return (skies >> village & 1) == 1;
        }

        boolean hasStrip(int village, int strip) {
            return hasVillage(village) && strip >= 0 && strip < stripsOf(village);
        }

        boolean hasSet(int set) {
            return set >= 0 && set < 1 << villages;
        }

        int stripAt(int side, int cell) {
            return strips[side * MAX_CELLS + cell];
        }

        int stripsOf(int village) {
            return stripsFrom(sides[village]);
        }

        int stripsFrom(int side) {
            if (cells == 0) {
                return 0;
            }
            switch (side) {
                case 0:
                case 4:
                    return width;
                case 2:
                case 6:
                    return depth;
                default:
                    return width + depth - 1;
            }
        }

        int villageNamed(long name) {
            for (int v = 0; v < villages; v++) {
                if (names[v] == name) {
                    return v;
                }
            }
            return NONE;
        }

        int stripsPromised(int set) {
            int sum = 0;
            for (int v = 0; v < villages; v++) {
                sum += (set & skies & 1 << v) != 0 ? stripsOf(v) : 0;
            }
            return sum;
        }

        void lookFrom(int side, int[] heights, int[] into, int from) {
            int count = stripsFrom(side);
            for (int s = 0; s < count; s++) {
                into[from + s] = 0;
            }
            for (int c = 0; c < cells; c++) {
                int place = from + stripAt(side, c);
                into[place] = Math.max(into[place], heights[c]);
            }
        }

        void lookFromAll(int[] heights, int[] into) {
            for (int v = 0; v < villages; v++) {
                lookFrom(sides[v], heights, into, v * MAX_STRIPS);
            }
        }

        int sightOf(int village, int strip, int[] heights) {
            int greatest = 0;
            for (int c = 0; c < cells; c++) {
                if (stripAt(sides[village], c) == strip) {
                    greatest = Math.max(greatest, heights[c]);
                }
            }
            return greatest;
        }

        int lowestSight(int[] heights) {
            int lowest = MAX_HEIGHT;
            for (int v = 0; v < villages; v++) {
                lookFrom(sides[v], heights, view, 0);
                for (int s = 0; s < stripsOf(v); s++) {
                    lowest = Math.min(lowest, view[s]);
                }
            }
            return lowest;
        }

        int firstUnlikeStrip(int village, int[] heights) {
            lookFrom(sides[village], heights, view, 0);
            for (int s = 0; s < stripsOf(village); s++) {
                if (view[s] != promises[village * MAX_STRIPS + s]) {
                    return s;
                }
            }
            return NONE;
        }

        int firstUnlikeVillage(int[] heights) {
            for (int v = 0; v < villages; v++) {
                if (hasSky(v) && firstUnlikeStrip(v, heights) != NONE) {
                    return v;
                }
            }
            return NONE;
        }

        int stoneOf(int[] heights) {
            int sum = 0;
            for (int c = 0; c < cells; c++) {
                sum += Math.max(0, heights[c] - least[c]) * price[c];
            }
            return sum;
        }
    }

    /** Two towns on one PLAIN: how VILLAGES tell them apart, and how one becomes the other. */
    private static final class Couple {
        final int[] one = new int[MAX_CELLS];
        final int[] other = new int[MAX_CELLS];
        final int[] orderCells = new int[MAX_ORDER_CELLS];
        int orderCount;
        private final int[] view = new int[MAX_STRIPS];
        private final int[] otherView = new int[MAX_STRIPS];
        private final int[] tells = new int[MAX_VILLAGES];
        private final int[] target = new int[MAX_CELLS];

        int firstStripApart(Plain plain, int village) {
            plain.lookFrom(plain.sides[village], one, view, 0);
            plain.lookFrom(plain.sides[village], other, otherView, 0);
            for (int s = 0; s < plain.stripsOf(village); s++) {
                if (view[s] != otherView[s]) {
                    return s;
                }
            }
            return NONE;
        }

        int fewestWatchers(Plain plain, Tray tray, int many) {
            tellRowsApart(plain, tray, many);
            int couples = many * (many - 1) / 2;
            int best = NONE;
            for (int set = 0; set < 1 << plain.villages; set++) {
                boolean fewer = best == NONE || Integer.bitCount(set) < Integer.bitCount(best);
                if (fewer && couplesTold(set) == (1 << couples) - 1) {
                    best = set;
                }
            }
            return best;
        }

        /** Leaves in tells, for each VILLAGE, the set of couples that it tells apart. */
        private void tellRowsApart(Plain plain, Tray tray, int many) {
            Arrays.fill(tells, 0);
            int couple = 0;
            for (int a = 0; a < many; a++) {
                tray.copyHeights(a * plain.cells, plain.cells, one, 0);
                for (int b = a + 1; b < many; b++) {
                    tray.copyHeights(b * plain.cells, plain.cells, other, 0);
                    for (int v = 0; v < plain.villages; v++) {
                        tells[v] |= firstStripApart(plain, v) == NONE ? 0 : 1 << couple;
                    }
                    couple++;
                }
            }
        }

        private int couplesTold(int set) {
            int told = 0;
            for (int v = 0; v < MAX_VILLAGES; v++) {
                told |= (set >> v & 1) == 1 ? tells[v] : 0;
            }
            return told;
        }

        int cellsUnlike(Plain plain) {
            int unlike = 0;
            for (int c = 0; c < plain.cells; c++) {
                unlike += one[c] != other[c] ? 1 : 0;
            }
            return unlike;
        }

        boolean looksAlike(Plain plain) {
            for (int v = 0; v < plain.villages; v++) {
                if (firstStripApart(plain, v) != NONE) {
                    return false;
                }
            }
            return true;
        }

        /**
         * Where the two look alike, no step can lead astray: CELLS that still rise may all be
         * raised next, those that fall come behind them, and no sight is lost by it. So the
         * least CELL that keeps the sights is always the one to take.
         */
        void findOrder(Plain plain) {
            int unlike = Math.min(cellsUnlike(plain), MAX_ORDER_CELLS);
            System.arraycopy(other, 0, target, 0, plain.cells);
            System.arraycopy(one, 0, other, 0, plain.cells);
            orderCount = 0;
            for (int k = 0; k < unlike; k++) {
                int cell = changeFirst(plain);
                if (cell == NONE) {
                    return;
                }
                orderCells[orderCount] = cell;
                orderCount++;
            }
        }

        /** Makes the change of the least CELL that keeps the sights, and tells which it was. */
        private int changeFirst(Plain plain) {
            for (int c = 0; c < plain.cells; c++) {
                int old = other[c];
                if (old != target[c]) {
                    other[c] = target[c];
                    if (looksAlike(plain)) {
                        return c;
                    }
                    other[c] = old;
                }
            }
            return NONE;
        }
    }

    /** Masons' orders as acts, one behind the other; an end is an act, but no STEP. */
    private static final class Orders {
        boolean there;
        int steps;
        int acts;
        final int[] act = new int[MAX_ACTS];
        final int[] test = new int[MAX_ACTS];
        final int[] where = new int[MAX_ACTS];
        final int[] strip = new int[MAX_ACTS];
        final int[] sign = new int[MAX_ACTS];
        final int[] number = new int[MAX_ACTS];
        final int[] mate = new int[MAX_ACTS];

        void begin(boolean areThere) {
            there = areThere;
            steps = 0;
            acts = 0;
        }

        void copyFrom(Orders other) {
            there = other.there;
            steps = other.steps;
            acts = other.acts;
            System.arraycopy(other.act, 0, act, 0, acts);
            System.arraycopy(other.test, 0, test, 0, acts);
            System.arraycopy(other.where, 0, where, 0, acts);
            System.arraycopy(other.strip, 0, strip, 0, acts);
            System.arraycopy(other.sign, 0, sign, 0, acts);
            System.arraycopy(other.number, 0, number, 0, acts);
            System.arraycopy(other.mate, 0, mate, 0, acts);
        }
    }

    /** All that a MARK keeps. */
    private static final class World {
        final Plain plain = new Plain();
        final int[] town = new int[MAX_CELLS];
        final Orders orders = new Orders();

        void settle(Plain newPlain) {
            plain.copyFrom(newPlain);
            System.arraycopy(plain.least, 0, town, 0, MAX_CELLS);
            orders.begin(false);
        }

        void copyFrom(World other) {
            plain.copyFrom(other.plain);
            System.arraycopy(other.town, 0, town, 0, MAX_CELLS);
            orders.copyFrom(other.orders);
        }
    }

    /** Goes along a text TOKEN by TOKEN, and keeps the first FAULT. */
    private static final class Reader {
        static final int AT_END = 0;
        static final int NO_TOKEN = 1;
        static final int WORD = 2;
        static final int NUMBER = 3;
        static final int SIGN = 4;

        int kind;
        int number;
        int sign;
        int word;
        long name;
        int taken;
        int fault;
        int faultPlace;
        private final long[] words = new long[WORD_COUNT];
        private byte[] text = new byte[0];
        private int length;
        private int at;
        private int place;
        private int letters;

        /** Eight letters of five bits fit a long, so that WORDS are compared as numbers. */
        Reader() {
            int k = 0;
            for (int i = 0; i < WORDS.length() && k < WORD_COUNT; i++) {
                char c = WORDS.charAt(i);
                if (c == ' ') {
                    k++;
                } else {
                    words[k] = words[k] << 5 | c - 'a' + 1;
                }
            }
        }

        void begin(byte[] bytes, int n) {
            text = bytes;
            length = Math.min(n, bytes.length);
            at = 0;
            fault = 0;
            faultPlace = NONE;
            step();
        }

        void step() {
            while (at < length && (text[at] == 10 || text[at] == 32)) {
                at++;
            }
            place = at;
            word = NONE;
            if (at >= length) {
                kind = AT_END;
            } else if (text[at] >= 'a' && text[at] <= 'z') {
                readWord();
            } else if (text[at] >= '0' && text[at] <= '9') {
                readDigits();
            } else {
                readSign();
            }
        }

        private void readWord() {
            kind = WORD;
            letters = 0;
            name = 0;
            for (; at < length && text[at] >= 'a' && text[at] <= 'z'; at++) {
                letters++;
                name = name << 5 | text[at] - 'a' + 1;
            }
            for (int k = 0; k < WORD_COUNT && letters <= MAX_LETTERS; k++) {
                if (words[k] == name) {
                    word = k;
                }
            }
        }

        private void readDigits() {
            number = 0;
            int digits = 0;
            for (; at < length && text[at] >= '0' && text[at] <= '9'; at++) {
                digits++;
                number = number * 10 + text[at] - '0';
            }
            kind = digits <= MAX_DIGITS ? NUMBER : NO_TOKEN;
        }

        private void readSign() {
            sign = text[at];
            boolean known = sign == ';' || sign == '<' || sign == '>' || sign == '=';
            kind = known ? SIGN : NO_TOKEN;
            at++;
        }

        /** A FAULT at the TOKEN that is next; what is no TOKEN is always kind 1. */
        boolean refuse(int faultKind) {
            fault = kind == NO_TOKEN ? 1 : faultKind;
            faultPlace = place;
            return false;
        }

        boolean takeWord(int which) {
            if (word != which) {
                return refuse(2);
            }
            step();
            return true;
        }

        boolean takeSemicolon() {
            if (kind != SIGN || sign != ';') {
                return refuse(2);
            }
            step();
            return true;
        }

        boolean takeCompares() {
            if (kind != SIGN || sign == ';') {
                return refuse(2);
            }
            taken = sign;
            step();
            return true;
        }

        boolean takeNumber(int lowest, int greatest) {
            if (kind != NUMBER) {
                return refuse(2);
            }
            if (number < lowest || number > greatest) {
                return refuse(4);
            }
            taken = number;
            step();
            return true;
        }

        boolean isName() {
            return kind == WORD && letters <= MAX_LETTERS && word == NONE;
        }

        boolean isSide() {
            return word >= FIRST_SIDE;
        }
    }

    private static final class PlainReader {
        final Plain made = new Plain();
        final Reader reader = new Reader();
        private int mosts;
        private int leasts;
        private int prices;

        boolean readPlain(byte[] text, int length) {
            reader.begin(text, length);
            mosts = 0;
            leasts = 0;
            prices = 0;
            if (!readSize()) {
                return false;
            }
            for (int part = 0; part < length && reader.kind != Reader.AT_END; part++) {
                if (!readPart()) {
                    return false;
                }
            }
            return true;
        }

        private boolean readSize() {
            if (!reader.takeWord(SIZE) || !reader.takeNumber(1, MAX_SIZE)) {
                return false;
            }
            int width = reader.taken;
            if (!reader.takeNumber(1, MAX_SIZE) || !reader.takeSemicolon()) {
                return false;
            }
            made.begin(width, reader.taken);
            return true;
        }

        private boolean readPart() {
            switch (reader.word) {
                case MOST:
                    mosts++;
                    return readCells(made.most, mosts, 0);
                case LEAST:
                    leasts++;
                    return readCells(made.least, leasts, 0);
                case PRICE:
                    prices++;
                    return readCells(made.price, prices, 1);
                case VILLAGE:
                    return readVillage();
                default:
                    return reader.refuse(2);
            }
        }

        private boolean readCells(int[] into, int row, int lowest) {
            if (row > made.depth) {
                return reader.refuse(6);
            }
            reader.step();
            return readRow(into, (row - 1) * made.width, made.width, lowest);
        }

        private boolean readRow(int[] into, int from, int many, int lowest) {
            int count = 0;
            while (count < many && (count == 0 || reader.kind == Reader.NUMBER)) {
                if (!reader.takeNumber(lowest, MAX_HEIGHT)) {
                    return false;
                }
                into[from + count] = reader.taken;
                count++;
            }
            if (reader.kind == Reader.NUMBER) {
                boolean fits = reader.number >= lowest && reader.number <= MAX_HEIGHT;
                return reader.refuse(fits ? 6 : 4);
            }
            boolean ends = reader.kind == Reader.SIGN && reader.sign == ';';
            return ends && count < many ? reader.refuse(7) : reader.takeSemicolon();
        }

        private boolean readVillage() {
            int v = made.villages;
            if (v >= MAX_VILLAGES) {
                return reader.refuse(6);
            }
            reader.step();
            if (!reader.isName()) {
                return reader.refuse(2);
            }
            if (made.villageNamed(reader.name) != NONE) {
                return reader.refuse(3);
            }
            made.names[v] = reader.name;
            reader.step();
            if (!reader.isSide()) {
                return reader.refuse(2);
            }
            made.sides[v] = reader.word - FIRST_SIDE;
            made.villages++;
            reader.step();
            if (reader.word != SEES) {
                return reader.takeSemicolon();
            }
            made.skies |= 1 << v;
            reader.step();
            return readRow(made.promises, v * MAX_STRIPS, made.stripsOf(v), 0);
        }
    }

    private static final class OrdersReader {
        final Orders made = new Orders();
        final Reader reader = new Reader();
        private final int[] opened = new int[MAX_DEPTH];
        private int depth;

        boolean readOrders(byte[] text, int length, Plain plain) {
            depth = 0;
            made.begin(true);
            reader.begin(text, length);
            for (int k = 0; k < length && reader.kind != Reader.AT_END; k++) {
                boolean good = reader.word == END ? readEnd() : openStep() && readRest(plain);
                if (!good || !reader.takeSemicolon()) {
                    return false;
                }
            }
            return depth == 0 || reader.refuse(2);
        }

        private boolean readEnd() {
            if (depth <= 0 || made.acts >= MAX_ACTS) {
                return reader.refuse(2);
            }
            depth--;
            int a = made.acts;
            made.act[a] = END;
            made.mate[a] = opened[depth];
            made.mate[opened[depth]] = a;
            made.acts++;
            return reader.takeWord(END);
        }

        private boolean openStep() {
            int act = reader.word;
            boolean opens = act == WHEN || act == LOOP;
            if (!opens && act != RAISE && act != LOWER && act != STORM && act != STOP) {
                return reader.refuse(2);
            }
            if (made.steps >= MAX_STEPS || made.acts >= MAX_ACTS) {
                return reader.refuse(6);
            }
            if (opens && depth >= MAX_DEPTH) {
                return reader.refuse(7);
            }
            int a = made.acts;
            if (opens) {
                opened[depth] = a;
                depth++;
            }
            made.act[a] = act;
            made.steps++;
            made.acts++;
            reader.step();
            return true;
        }

        private boolean readRest(Plain plain) {
            int a = made.acts - 1;
            switch (made.act[a]) {
                case RAISE:
                case LOWER:
                    return readCell(plain, a) && readBy(a);
                case STORM:
                case LOOP:
                    return readNumber(a, 1, MAX_AMOUNT);
                case WHEN:
                    return readTest(plain, a);
                default:
                    return true;
            }
        }

        private boolean readCell(Plain plain, int a) {
            if (!reader.takeNumber(0, plain.width - 1)) {
                return false;
            }
            int x = reader.taken;
            if (!reader.takeNumber(0, plain.depth - 1)) {
                return false;
            }
            made.where[a] = reader.taken * plain.width + x;
            return true;
        }

        private boolean readBy(int a) {
            made.number[a] = 1;
            if (reader.word != BY) {
                return true;
            }
            reader.step();
            return readNumber(a, 1, MAX_AMOUNT);
        }

        private boolean readNumber(int a, int lowest, int greatest) {
            boolean good = reader.takeNumber(lowest, greatest);
            made.number[a] = reader.taken;
            return good;
        }

        private boolean readTest(Plain plain, int a) {
            int test = reader.word;
            if (test != CELL && test != SEES && test != SAME && test != STONE) {
                return reader.refuse(2);
            }
            made.test[a] = test;
            reader.step();
            switch (test) {
                case CELL:
                    return readCell(plain, a) && readCompares(a) && readNumber(a, 0, MAX_HEIGHT);
                case SEES:
                    return readName(plain, a) && readStrip(a) && readCompares(a)
                        && readNumber(a, 0, MAX_HEIGHT);
                case SAME:
                    return readName(plain, a);
                default:
                    return readCompares(a) && readNumber(a, 0, MAX_STONE);
            }
        }

        private boolean readName(Plain plain, int a) {
            if (!reader.isName()) {
                return reader.refuse(2);
            }
            made.where[a] = plain.villageNamed(reader.name);
            if (made.where[a] == NONE) {
                return reader.refuse(3);
            }
            reader.step();
            return true;
        }

        private boolean readStrip(int a) {
            boolean good = reader.takeWord(AT) && reader.takeNumber(0, MAX_STRIPS - 1);
            made.strip[a] = reader.taken;
            return good;
        }

        private boolean readCompares(int a) {
            boolean good = reader.takeCompares();
            made.sign[a] = reader.taken;
            return good;
        }
    }

    /** What is wanted to be seen, and how high the CELLS may be by it. */
    private static final class Sights {
        /** Below a weight's stone lie bits that tell which CELLS were raised, CELL 0 highest. */
        private static final int TIE_BITS = 25;

        final int[] caps = new int[MAX_CELLS];
        final int[] bar = new int[3];
        private final int[] wanted = new int[MAX_VIEWS];
        private final int[] view = new int[MAX_STRIPS];
        private final long[] weights = new long[MAX_CELLS];
        private final Cover cover = new Cover();
        private int watching;

        void wantPromises(Plain plain, int set) {
            System.arraycopy(plain.promises, 0, wanted, 0, MAX_VIEWS);
            watching = set & plain.skies;
            findCaps(plain);
        }

        void wantFromAll(Plain plain, int[] views) {
            System.arraycopy(views, 0, wanted, 0, MAX_VIEWS);
            watching = (1 << plain.villages) - 1;
            findCaps(plain);
        }

        void wantViews(Plain plain, int[] heights) {
            plain.lookFromAll(heights, wanted);
            watching = (1 << plain.villages) - 1;
            findCaps(plain);
        }

        private void findCaps(Plain plain) {
            int cells = plain.cells;
            System.arraycopy(plain.most, 0, caps, 0, cells);
            for (int v = 0; v < plain.villages; v++) {
                if (isWatching(v)) {
                    for (int c = 0; c < cells; c++) {
                        int strip = plain.stripAt(plain.sides[v], c);
                        caps[c] = Math.min(caps[c], wanted[v * MAX_STRIPS + strip]);
                    }
                }
            }
        }

        private boolean isWatching(int village) {
            return (watching >> village & 1) == 1;
        }

        void keepLow(Plain plain, int cell) {
            caps[cell] = Math.min(caps[cell], plain.least[cell]);
        }

        /** Leaves in bar what is BARRED, if they can't. */
        boolean canBeKept(Plain plain) {
            Arrays.fill(bar, NONE);
            for (int c = 0; c < plain.cells; c++) {
                if (caps[c] < plain.least[c]) {
                    bar[0] = c;
                    return false;
                }
            }
            for (int v = 0; v < plain.villages; v++) {
                if (isWatching(v) && !isSeenByCaps(plain, v)) {
                    return false;
                }
            }
            return true;
        }

        private boolean isSeenByCaps(Plain plain, int village) {
            plain.lookFrom(plain.sides[village], caps, view, 0);
            for (int s = 0; s < plain.stripsOf(village); s++) {
                if (view[s] != wanted[village * MAX_STRIPS + s]) {
                    bar[1] = village;
                    bar[2] = s;
                    return false;
                }
            }
            return true;
        }

        /** A strip with a CELL whose LEAST is its CAP needs no other one. */
        private void gatherNeeds(Plain plain) {
            cover.begin();
            int low = 0;
            for (int c = 0; c < plain.cells; c++) {
                low |= caps[c] == plain.least[c] ? 1 << c : 0;
            }
            for (int v = 0; v < plain.villages; v++) {
                if (isWatching(v)) {
                    gatherNeedsOf(plain, v, low);
                }
            }
            cover.findForced();
        }

        private void gatherNeedsOf(Plain plain, int village, int low) {
            Arrays.fill(view, 0);
            for (int c = 0; c < plain.cells; c++) {
                int s = plain.stripAt(plain.sides[village], c);
                view[s] |= caps[c] == wanted[village * MAX_STRIPS + s] ? 1 << c : 0;
            }
            for (int s = 0; s < plain.stripsOf(village); s++) {
                if ((view[s] & low) == 0) {
                    cover.require(view[s], plain.sides[village] % Cover.DIRECTIONS);
                }
            }
        }

        void cheapestTown(Plain plain, int[] into) {
            gatherNeeds(plain);
            for (int c = 0; c < plain.cells; c++) {
                long stone = (long) (caps[c] - plain.least[c]) * plain.price[c];
                weights[c] = stone << TIE_BITS | 1L << TIE_BITS - 1 - c;
            }
            long weight = cover.leastWeight(weights);
            for (int c = 0; c < plain.cells; c++) {
                boolean raised = (weight >> TIE_BITS - 1 - c & 1) == 1;
                into[c] = raised ? caps[c] : plain.least[c];
            }
        }

        int fewestRaised(Plain plain) {
            gatherNeeds(plain);
            Arrays.fill(weights, 1L);
            return (int) cover.leastWeight(weights);
        }

        boolean mustRaise(Plain plain, int cell) {
            gatherNeeds(plain);
            return (cover.forced >> cell & 1) == 1;
        }

        int countTowns(Plain plain) {
            gatherNeeds(plain);
            for (int c = 0; c < plain.cells; c++) {
                weights[c] = caps[c] - plain.least[c];
            }
            return (int) cover.countWays(plain.cells, weights);
        }
    }

    /**
     * Needs are sets of CELLS, of each of which one at least must be raised. Those of one
     * direction have no CELL in common, as they come from strips side by side.
     */
    private static final class Cover {
        private static final long FAR = 1L << 60;
        private static final long MODULUS = 1_000_007L;
        private static final int DIRECTIONS = 4;
        /** By trial of all sizes: of at most 16 strips no more are begun and not ended at one time. */
        private static final int MAX_SLOTS = 11;

        int forced;
        private final int[] needs = new int[MAX_VIEWS];
        private final int[] directions = new int[MAX_VIEWS];
        private int count;
        private final long[] floors = new long[DIRECTIONS];
        private int narrowest;
        private long best;
        private final int[] slots = new int[MAX_VIEWS];
        private final int[] reach = new int[MAX_CELLS];
        private final long[] states = new long[1 << MAX_SLOTS];

        void begin() {
            count = 0;
            forced = 0;
        }

        /** Keeps only needs that no other one lies within: those are met by that one. */
        void require(int need, int direction) {
            for (int k = 0; k < count; k++) {
                if ((needs[k] & need) == needs[k]) {
                    return;
                }
            }
            int kept = 0;
            for (int k = 0; k < count; k++) {
                if ((needs[k] & need) != need) {
                    move(k, kept);
                    kept++;
                }
            }
            count = kept;
            if (count < MAX_VIEWS) {
                needs[count] = need;
                directions[count] = direction;
                count++;
            }
        }

        private void move(int from, int to) {
            needs[to] = needs[from];
            directions[to] = directions[from];
        }

        /** Needs of one CELL go; that CELL lies in no other need, as such a one was not kept. */
        void findForced() {
            int kept = 0;
            for (int k = 0; k < count; k++) {
                if (Integer.bitCount(needs[k]) == 1) {
                    forced |= needs[k];
                } else {
                    move(k, kept);
                    kept++;
                }
            }
            count = kept;
        }

        // the least weight of CELLS by which all needs are met

        long leastWeight(long[] weights) {
            long spent = 0;
            for (int c = 0; c < MAX_CELLS; c++) {
                spent += (forced >> c & 1) == 1 ? weights[c] : 0;
            }
            best = FAR;
            search(weights, forced, 0, spent, 0);
            return best;
        }

        /** One CELL is raised at each depth; those tried ahead of it stay low behind it. */
        private void search(long[] weights, int raised, int low, long spent, int depth) {
            if (depth > MAX_CELLS || spent + floorOf(weights, raised, low) >= best) {
                return;
            }
            int left = narrowest;
            if (left == 0) {
                best = spent;
                return;
            }
            int tried = low;
            for (int k = 0; k < MAX_CELLS && left != 0; k++) {
                int cell = lightest(weights, left);
                search(weights, raised | 1 << cell, tried, spent + weights[cell], depth + 1);
                tried |= 1 << cell;
                left &= ~(1 << cell);
            }
        }

        /**
         * What is spent at least on needs that are not met: in one direction no CELL serves
         * two of them. Leaves the one with the fewest CELLS left, or nothing, in narrowest.
         */
        private long floorOf(long[] weights, int raised, int low) {
            Arrays.fill(floors, 0L);
            narrowest = 0;
            for (int k = 0; k < count; k++) {
                if ((needs[k] & raised) == 0) {
                    int left = needs[k] & ~low;
                    if (left == 0) {
                        return FAR;
                    }
                    if (narrowest == 0 || Integer.bitCount(left) < Integer.bitCount(narrowest)) {
                        narrowest = left;
                    }
                    floors[directions[k]] += weights[lightest(weights, left)];
                }
            }
            return Math.max(Math.max(floors[0], floors[1]), Math.max(floors[2], floors[3]));
        }

        private static int lightest(long[] weights, int cells) {
            int rest = cells;
            int found = NONE;
            for (int k = 0; k < MAX_CELLS && rest != 0; k++) {
                int cell = Integer.numberOfTrailingZeros(rest);
                if (found == NONE || weights[cell] < weights[found]) {
                    found = cell;
                }
                rest &= rest - 1;
            }
            return Math.max(found, 0);
        }

        // how many ways there are to meet them: CELLS are gone through once; a state is the
        // set of needs, begun and not yet at their last CELL, that are met already

        /** below: in how many ways a CELL may be lower than raised. */
        long countWays(int cells, long[] below) {
            if (!holdSlots(cells)) {
                return 0;
            }
            Arrays.fill(states, 0L);
            states[0] = 1;
            long free = 1;
            for (int c = 0; c < cells; c++) {
                int met = slotsMet(c);
                if (met != 0) {
                    raiseOrNot(met, below[c], reach[c]);
                    closeSlots(slotsClosing(c), reach[c]);
                } else if ((forced >> c & 1) == 0) {
                    free = free * (below[c] + 1) % MODULUS;
                }
            }
            return free * states[0] % MODULUS;
        }

        /** A need has a slot, a bit of the state, from its first CELL to its last. */
        private boolean holdSlots(int cells) {
            int held = 0;
            for (int c = 0; c < cells; c++) {
                for (int k = 0; k < count; k++) {
                    if (Integer.numberOfTrailingZeros(needs[k]) == c) {
                        slots[k] = Integer.numberOfTrailingZeros(~held);
                        held |= 1 << slots[k];
                    }
                }
                if (held >= 1 << MAX_SLOTS) {
                    return false;
                }
                reach[c] = 1 << 32 - Integer.numberOfLeadingZeros(held);
                held &= ~slotsClosing(c);
            }
            return true;
        }

        private int slotsClosing(int cell) {
            int closing = 0;
            for (int k = 0; k < count; k++) {
                boolean last = 31 - Integer.numberOfLeadingZeros(needs[k]) == cell;
                closing |= last ? 1 << slots[k] : 0;
            }
            return closing;
        }

        private int slotsMet(int cell) {
            int met = 0;
            for (int k = 0; k < count; k++) {
                met |= (needs[k] >> cell & 1) == 1 ? 1 << slots[k] : 0;
            }
            return met;
        }

        /** From above downward, so that no state gets the same CELL twice. */
        private void raiseOrNot(int met, long below, int within) {
            for (int state = within - 1; state >= 0; state--) {
                long ways = states[state];
                if (ways != 0) {
                    states[state] = ways * below % MODULUS;
                    states[state | met] = (states[state | met] + ways) % MODULUS;
                }
            }
        }

        /** States in which a need stays unmet behind its last CELL lead nowhere. */
        private void closeSlots(int closing, int within) {
            if (closing == 0) {
                return;
            }
            for (int state = 0; state < within; state++) {
                states[state] = (state & closing) == 0 ? states[state | closing] : 0;
            }
        }
    }

    /** Carries out ORDERS on heights, and counts what it does. */
    private static final class Mason {
        /** Far above what 400 STEPS with their ends can need. */
        private static final int MAX_TURNS = 1_000_000;

        int steps;
        int laid;
        int taken;
        int left;
        private final int[] rounds = new int[MAX_ACTS];
        private int drawn;

        void work(Orders orders, Plain plain, int[] heights, int seed) {
            steps = 0;
            laid = 0;
            taken = 0;
            left = 0;
            drawn = seed;
            int a = 0;
            for (int turn = 0; turn < MAX_TURNS && a < orders.acts; turn++) {
                if (orders.act[a] == END) {
                    a = behindEnd(orders, a);
                } else if (steps >= MAX_STEPS_DONE) {
                    left = 1;
                    return;
                } else {
                    steps++;
                    a = behindStep(orders, plain, heights, a);
                }
            }
        }

        private int behindEnd(Orders orders, int a) {
            int opener = orders.mate[a];
            if (orders.act[opener] == LOOP) {
                rounds[opener]--;
                if (rounds[opener] > 0) {
                    return opener + 1;
                }
            }
            return a + 1;
        }

        private int behindStep(Orders orders, Plain plain, int[] heights, int a) {
            int where = orders.where[a];
            switch (orders.act[a]) {
                case RAISE:
                    if (plain.hasCell(where)) {
                        lay(heights, where, orders.number[a]);
                    }
                    return a + 1;
                case LOWER:
                    if (plain.hasCell(where)) {
                        take(heights, where, orders.number[a]);
                    }
                    return a + 1;
                case STORM:
                    rage(heights, plain.cells, orders.number[a]);
                    return a + 1;
                case WHEN:
                    return isSo(orders, plain, heights, a) ? a + 1 : orders.mate[a] + 1;
                case LOOP:
                    rounds[a] = orders.number[a];
                    return a + 1;
                default:
                    return orders.acts;
            }
        }

        private void lay(int[] heights, int cell, int much) {
            int most = Math.min(much, MAX_HEIGHT - heights[cell]);
            heights[cell] += most;
            laid += most;
        }

        private void take(int[] heights, int cell, int much) {
            int most = Math.min(much, heights[cell]);
            heights[cell] -= most;
            taken += most;
        }

        private void rage(int[] heights, int cells, int draws) {
            if (cells <= 0) {
                return;
            }
            for (int k = 0; k < draws; k++) {
                drawn = (drawn * 2861 + 12007) % 65536;
                take(heights, drawn / 8 % cells, 1);
            }
        }

        private boolean isSo(Orders orders, Plain plain, int[] heights, int a) {
            int where = orders.where[a];
            int sign = orders.sign[a];
            int number = orders.number[a];
            switch (orders.test[a]) {
                case CELL:
                    return plain.hasCell(where) && compares(heights[where], sign, number);
                case SEES:
                    return plain.hasStrip(where, orders.strip[a])
                        && compares(plain.sightOf(where, orders.strip[a], heights), sign, number);
                case SAME:
                    return plain.hasVillage(where) && plain.hasSky(where)
                        && plain.firstUnlikeStrip(where, heights) == NONE;
                default:
                    return compares(plain.stoneOf(heights), sign, number);
            }
        }

        private static boolean compares(int value, int sign, int number) {
            switch (sign) {
                case '<':
                    return value < number;
                case '>':
                    return value > number;
                default:
                    return value == number;
            }
        }
    }
}
