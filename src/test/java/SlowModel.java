import java.util.ArrayList;
import java.util.Arrays;
import java.util.HashMap;
import java.util.List;
import java.util.Map;
import java.util.TreeMap;
import java.util.TreeSet;

/** A slow model that follows the document's words by trial: every order, every set of raised cells. */
final class SlowModel {
    private static final int NONE = -1;
    static final String[] SIDES = {"n", "ne", "e", "se", "s", "sw", "w", "nw"};
    private static final List<String> KEPT_WORDS = Arrays.asList("size", "most", "least", "price", "village", "sees",
        "raise", "lower", "by", "storm", "when", "cell", "at", "same", "stone", "loop", "end", "stop");

    @SuppressWarnings("serial")
    static final class Fault extends RuntimeException {
        final int kind;
        final int place;

        Fault(int kind, int place) {
            super(null, null, false, false);
            this.kind = kind;
            this.place = place;
        }
    }

    @SuppressWarnings("serial")
    static final class Over extends RuntimeException {
        final boolean left;

        Over(boolean left) {
            super(null, null, false, false);
            this.left = left;
        }
    }

    record Token(char kind, String text, int place) { }

    record Village(String name, int side, int[] sky) { }

    static final class Land {
        int w;
        int h;
        int[] most = {};
        int[] least = {};
        int[] price = {};
        final List<Village> villages = new ArrayList<>();

        int cells() {
            return w * h;
        }

        static int key(int side, int x, int y) {
            int[] keys = {-x, -x - y, -y, x - y, x, x + y, y, y - x};
            return keys[side];
        }

        /** For each strip of a side the cells in it. */
        List<List<Integer>> strips(int side) {
            TreeMap<Integer, List<Integer>> byKey = new TreeMap<>();
            for (int c = 0; c < cells(); c++) {
                byKey.computeIfAbsent(key(side, c % w, c / w), k -> new ArrayList<>()).add(c);
            }
            return new ArrayList<>(byKey.values());
        }

        int[] view(int side, int[] town) {
            List<List<Integer>> strips = strips(side);
            int[] view = new int[strips.size()];
            for (int s = 0; s < view.length; s++) {
                view[s] = strips.get(s).stream().mapToInt(c -> town[c]).max().orElse(0);
            }
            return view;
        }

        List<int[]> views(int[] town) {
            List<int[]> views = new ArrayList<>();
            for (Village v : villages) {
                views.add(view(v.side, town));
            }
            return views;
        }

        int stone(int[] town) {
            int sum = 0;
            for (int c = 0; c < cells(); c++) {
                sum += Math.max(0, town[c] - least[c]) * price[c];
            }
            return sum;
        }
    }

    record Step(String act, int a, int b, int c, String test, char sign, int number, List<Step> body) { }

    static final class Text {
        final List<Token> tokens = new ArrayList<>();
        int next;

        Text(byte[] bytes) {
            int i = 0;
            while (i < bytes.length) {
                char c = (char) (bytes[i] & 255);
                if (c == 10 || c == 32) {
                    i++;
                    continue;
                }
                char kind = c >= 'a' && c <= 'z' ? 'w' : c >= '0' && c <= '9' ? 'd' : ";<>=".indexOf(c) >= 0 ? c : '?';
                int j = i + 1;
                while ((kind == 'w' || kind == 'd') && j < bytes.length && kindOf(bytes[j]) == kind) {
                    j++;
                }
                StringBuilder t = new StringBuilder();
                for (int k = i; k < j; k++) {
                    t.append((char) (bytes[k] & 255));
                }
                tokens.add(new Token(kind == 'd' && j - i > 4 ? '?' : kind, t.toString(), i));
                i = j;
            }
            tokens.add(new Token('$', "", bytes.length));
        }

        private static char kindOf(byte b) {
            return b >= 'a' && b <= 'z' ? 'w' : b >= '0' && b <= '9' ? 'd' : '?';
        }

        Token peek() {
            return tokens.get(next);
        }

        Fault bad(int kind) {
            return new Fault(peek().kind == '?' ? 1 : kind, peek().place);
        }

        boolean isWord(String w) {
            return peek().kind == 'w' && peek().text.equals(w);
        }

        void word(String w) {
            if (!isWord(w)) {
                throw bad(2);
            }
            next++;
        }

        void sign(char c) {
            if (peek().kind != c) {
                throw bad(2);
            }
            next++;
        }

        int number(int lo, int hi) {
            if (peek().kind != 'd') {
                throw bad(2);
            }
            int v = Integer.parseInt(peek().text);
            if (v < lo || v > hi) {
                throw bad(4);
            }
            next++;
            return v;
        }

        String name() {
            String t = peek().text;
            boolean good = peek().kind == 'w' && t.length() <= 8 && !KEPT_WORDS.contains(t)
                && !Arrays.asList(SIDES).contains(t);
            if (!good) {
                throw bad(2);
            }
            return t;
        }
    }

    int status;
    long top = 0;
    long bottom = 1;
    final long[][] trays = new long[4][];
    final int[] sorts = new int[4];
    final List<Byte> tape = new ArrayList<>();
    int fault = NONE;
    int faultAt = NONE;
    Land land = new Land();
    int[] town = {};
    List<Step> orders;
    int steps;
    final List<Object[]> marks = new ArrayList<>();
    List<Integer> order = new ArrayList<>();
    int[] building;

    int status() {
        return status;
    }

    long top() {
        return top;
    }

    long bottom() {
        return bottom;
    }

    private long no(int why) {
        status = why;
        return NONE;
    }

    private long yes(long v) {
        status = 0;
        return v;
    }

    private long flag(int why) {
        status = why;
        return why == 0 ? 1 : 0;
    }

    // trays
    long tray(int t, int sort, int many) {
        if (t < 0 || t > 3 || sort < 0 || sort > 3) {
            return flag(1);
        }
        if (many > 60) {
            return flag(5);
        }
        if (many < 0) {
            return flag(6);
        }
        trays[t] = new long[many];
        sorts[t] = sort;
        return flag(0);
    }

    private int place(int t, int p) {
        return t < 0 || t > 3 ? 1 : trays[t] == null ? 3 : p < 0 || p >= trays[t].length ? 4 : 0;
    }

    long write(int t, int p, long v) {
        int why = place(t, p);
        if (why == 0) {
            int bits = 64 - (8 << sorts[t]);
            trays[t][p] = v << bits >> bits;
        }
        return flag(why);
    }

    long read(int t, int p) {
        int why = place(t, p);
        return why == 0 ? yes(trays[t][p]) : no(why);
    }

    long pour(int t, int i, int to, int j, int many) {
        if (t < 0 || t > 3 || to < 0 || to > 3) {
            return flag(1);
        }
        if (trays[t] == null || trays[to] == null) {
            return flag(3);
        }
        if (sorts[t] != sorts[to]) {
            return flag(11);
        }
        if (many < 0) {
            return flag(6);
        }
        if (i < 0 || j < 0 || (long) i + many > trays[t].length || (long) j + many > trays[to].length) {
            return flag(4);
        }
        long[] part = Arrays.copyOfRange(trays[t], i, i + many);
        for (int k = 0; k < many; k++) {
            trays[to][j + k] = part[k];
        }
        return flag(0);
    }

    // texts
    long feed(int a, int b, int c, int d, int e) {
        if (tape.size() + 20 > 900) {
            return NONE;
        }
        for (int x : new int[] {a, b, c, d, e}) {
            for (int k = 3; k >= 0; k--) {
                tape.add((byte) (x >>> 8 * k));
            }
        }
        return tape.size();
    }

    private byte[] cutTape(int n) {
        byte[] bytes = new byte[n];
        for (int k = 0; k < n; k++) {
            bytes[k] = tape.get(k);
        }
        tape.clear();
        return bytes;
    }

    long plain(int n) {
        if (n < 0 || n > tape.size()) {
            return no(5);
        }
        try {
            land = readLand(new Text(cutTape(n)));
            town = land.least.clone();
            orders = null;
            fault = 0;
            faultAt = NONE;
            return yes(land.cells());
        } catch (Fault f) {
            fault = f.kind;
            faultAt = f.place;
            return no(10);
        }
    }

    private static Land readLand(Text t) {
        Land l = new Land();
        t.word("size");
        l.w = t.number(1, 5);
        l.h = t.number(1, 5);
        t.sign(';');
        l.most = new int[l.cells()];
        l.least = new int[l.cells()];
        l.price = new int[l.cells()];
        Arrays.fill(l.most, 99);
        Arrays.fill(l.price, 1);
        Map<String, Integer> rows = new HashMap<>();
        while (t.peek().kind != '$') {
            String part = t.peek().kind == 'w' ? t.peek().text : "";
            if (part.equals("village")) {
                readVillage(t, l);
            } else if (part.equals("most") || part.equals("least") || part.equals("price")) {
                int row = rows.merge(part, 1, Integer::sum) - 1;
                if (row == l.h) {
                    throw t.bad(6);
                }
                t.next++;
                int[] told = readRow(t, l.w, part.equals("price") ? 1 : 0);
                int[] all = part.equals("most") ? l.most : part.equals("least") ? l.least : l.price;
                System.arraycopy(told, 0, all, row * l.w, l.w);
            } else {
                throw t.bad(2);
            }
        }
        return l;
    }

    private static int[] readRow(Text t, int many, int lo) {
        List<Integer> row = new ArrayList<>();
        do {
            int before = t.next;
            int v = t.number(lo, 99);
            if (row.size() == many) {
                t.next = before;
                throw t.bad(6);
            }
            row.add(v);
        } while (t.peek().kind == 'd');
        if (t.peek().kind == ';' && row.size() < many) {
            throw t.bad(7);
        }
        t.sign(';');
        return row.stream().mapToInt(v -> v).toArray();
    }

    private static void readVillage(Text t, Land l) {
        if (l.villages.size() == 6) {
            throw t.bad(6);
        }
        t.word("village");
        String name = t.name();
        if (l.villages.stream().anyMatch(v -> v.name.equals(name))) {
            throw t.bad(3);
        }
        t.next++;
        int side = t.peek().kind == 'w' ? Arrays.asList(SIDES).indexOf(t.peek().text) : -1;
        if (side < 0) {
            throw t.bad(2);
        }
        t.next++;
        int[] sky = null;
        if (t.isWord("sees")) {
            t.next++;
            sky = readRow(t, l.strips(side).size(), 0);
        } else {
            t.sign(';');
        }
        l.villages.add(new Village(name, side, sky));
    }

    long orders(int n) {
        if (n < 0 || n > tape.size() || n > 300) {
            return no(5);
        }
        try {
            Text t = new Text(cutTape(n));
            int[] count = {0};
            List<Step> read = readSteps(t, 0, count);
            if (t.peek().kind != '$') {
                throw t.bad(2);
            }
            orders = read;
            steps = count[0];
            fault = 0;
            faultAt = NONE;
            return yes(steps);
        } catch (Fault f) {
            fault = f.kind;
            faultAt = f.place;
            return no(10);
        }
    }

    private List<Step> readSteps(Text t, int depth, int[] count) {
        List<Step> all = new ArrayList<>();
        while (t.peek().kind != '$' && !t.isWord("end")) {
            String act = t.peek().kind == 'w' ? t.peek().text : "";
            if (!Arrays.asList("raise", "lower", "storm", "when", "loop", "stop").contains(act)) {
                throw t.bad(2);
            }
            if (++count[0] > 30) {
                throw t.bad(6);
            }
            boolean opens = act.equals("when") || act.equals("loop");
            if (opens && depth == 3) {
                throw t.bad(7);
            }
            t.next++;
            Step step = readStep(t, act);
            t.sign(';');
            if (opens) {
                step.body.addAll(readSteps(t, depth + 1, count));
                t.word("end");
                t.sign(';');
            }
            all.add(step);
        }
        return all;
    }

    private Step readStep(Text t, String act) {
        int a = 0;
        int b = 0;
        int c = 0;
        String test = "";
        char sign = '=';
        int number = 1;
        if (act.equals("raise") || act.equals("lower")) {
            a = t.number(0, land.w - 1);
            b = t.number(0, land.h - 1);
            if (t.isWord("by")) {
                t.next++;
                number = t.number(1, 99);
            }
        } else if (act.equals("storm") || act.equals("loop")) {
            number = t.number(1, 99);
        } else if (act.equals("when")) {
            test = t.peek().kind == 'w' ? t.peek().text : "";
            if (!Arrays.asList("cell", "sees", "same", "stone").contains(test)) {
                throw t.bad(2);
            }
            t.next++;
            if (test.equals("cell")) {
                a = t.number(0, land.w - 1);
                b = t.number(0, land.h - 1);
            }
            if (test.equals("sees") || test.equals("same")) {
                String name = t.name();
                a = NONE;
                for (int v = 0; v < land.villages.size(); v++) {
                    a = land.villages.get(v).name.equals(name) ? v : a;
                }
                if (a == NONE) {
                    throw t.bad(3);
                }
                t.next++;
            }
            if (test.equals("sees")) {
                t.word("at");
                c = t.number(0, 8);
            }
            if (!test.equals("same")) {
                sign = t.peek().kind;
                if ("<>=".indexOf(sign) < 0) {
                    throw t.bad(2);
                }
                t.next++;
                number = t.number(0, test.equals("stone") ? 9999 : 99);
            }
        }
        return new Step(act, a, b, c, test, sign, number, new ArrayList<>());
    }

    long fault(int what) {
        return what == 0 ? fault : what == 1 ? faultAt : NONE;
    }

    long many(int what) {
        return what == 0 ? yes(land.w) : what == 1 ? yes(land.h) : what == 2 ? yes(land.villages.size()) : no(5);
    }

    private boolean isCell(int c) {
        return c >= 0 && c < land.cells();
    }

    private boolean isVillage(int v) {
        return v >= 0 && v < land.villages.size();
    }

    private int stripsOf(int v) {
        return land.strips(land.villages.get(v).side).size();
    }

    private boolean isStrip(int v, int s) {
        return isVillage(v) && s >= 0 && s < stripsOf(v);
    }

    private boolean isSet(int set) {
        return set >= 0 && set < 1 << land.villages.size();
    }

    long cell(int c, int what) {
        if (!isCell(c)) {
            return no(2);
        }
        return what == 0 ? yes(land.most[c]) : what == 1 ? yes(land.least[c]) : what == 2 ? yes(land.price[c]) : no(5);
    }

    long village(int v, int what) {
        if (!isVillage(v)) {
            return no(2);
        }
        return what == 0 ? yes(land.villages.get(v).side) : what == 1 ? yes(stripsOf(v))
            : what == 2 ? yes(land.villages.get(v).sky == null ? 0 : 1) : no(5);
    }

    long promised(int v, int s) {
        if (!isStrip(v, s)) {
            return no(2);
        }
        return land.villages.get(v).sky == null ? no(8) : yes(land.villages.get(v).sky[s]);
    }

    long strip(int side, int c) {
        if (side < 0 || side > 7 || !isCell(c)) {
            return no(2);
        }
        List<List<Integer>> strips = land.strips(side);
        for (int s = 0; s < strips.size(); s++) {
            if (strips.get(s).contains(c)) {
                return yes(s);
            }
        }
        throw new IllegalStateException();
    }

    // town
    long height(int c) {
        return isCell(c) ? yes(town[c]) : no(2);
    }

    long build(int c, int height) {
        if (!isCell(c)) {
            return flag(2);
        }
        if (height < 0 || height > 99) {
            return flag(5);
        }
        town[c] = height;
        return flag(0);
    }

    private int rowWhy(int t, int many) {
        if (trays[t].length < many) {
            return 4;
        }
        return Arrays.stream(trays[t], 0, many).anyMatch(x -> x < 0 || x > 99) ? 5 : 0;
    }

    private int[] row(int t, int from, int many) {
        return Arrays.stream(trays[t], from, from + many).mapToInt(x -> (int) x).toArray();
    }

    private int trayWhy(int t) {
        return t < 0 || t > 3 ? 1 : trays[t] == null ? 3 : 0;
    }

    long buildAll(int t) {
        int why = trayWhy(t);
        why = why != 0 ? why : rowWhy(t, land.cells());
        if (why == 0) {
            town = row(t, 0, land.cells());
        }
        return flag(why);
    }

    long seen(int v, int s) {
        return isStrip(v, s) ? yes(land.view(land.villages.get(v).side, town)[s]) : no(2);
    }

    private int[] firstOtherwise(int[] heights) {
        for (int v = 0; v < land.villages.size(); v++) {
            Village village = land.villages.get(v);
            if (village.sky != null) {
                int s = Arrays.mismatch(village.sky, land.view(village.side, heights));
                if (s >= 0) {
                    return new int[] {v, s};
                }
            }
        }
        return null;
    }

    long otherwise(int what) {
        if (what != 0 && what != 1) {
            return no(5);
        }
        int[] first = firstOtherwise(town);
        return first == null ? no(8) : yes(first[what]);
    }

    long stone() {
        return yes(land.stone(town));
    }

    // promises: wants are pairs of a strip's cells and what is to be seen there
    private record Want(int village, int strip, List<Integer> cells, int height) { }

    private List<Want> wants(int set) {
        List<Want> wants = new ArrayList<>();
        for (int v = 0; v < land.villages.size(); v++) {
            if ((set >> v & 1) == 1 && land.villages.get(v).sky != null) {
                addWants(wants, v, land.villages.get(v).sky);
            }
        }
        return wants;
    }

    private void addWants(List<Want> wants, int v, int[] row) {
        List<List<Integer>> strips = land.strips(land.villages.get(v).side);
        for (int s = 0; s < strips.size(); s++) {
            wants.add(new Want(v, s, strips.get(s), row[s]));
        }
    }

    private int[] caps(List<Want> wants) {
        int[] caps = land.most.clone();
        for (Want w : wants) {
            for (int c : w.cells) {
                caps[c] = Math.min(caps[c], w.height);
            }
        }
        return caps;
    }

    private int[] barred(List<Want> wants) {
        int[] caps = caps(wants);
        for (int c = 0; c < land.cells(); c++) {
            if (caps[c] < land.least[c]) {
                return new int[] {c, NONE, NONE};
            }
        }
        for (Want w : wants) {
            if (w.cells.stream().noneMatch(c -> caps[c] == w.height)) {
                return new int[] {NONE, w.village, w.strip};
            }
        }
        return null;
    }

    private static boolean kept(List<Want> wants, int[] heights) {
        for (Want w : wants) {
            int max = 0;
            for (int c : w.cells) {
                max = Math.max(max, heights[c]);
            }
            if (max != w.height) {
                return false;
            }
        }
        return true;
    }

    long cap(int c, int set) {
        return isCell(c) && isSet(set) ? yes(caps(wants(set))[c]) : no(2);
    }

    long can(int set) {
        return isSet(set) ? yes(barred(wants(set)) == null ? 1 : 0) : no(2);
    }

    long barred(int set, int what) {
        if (!isSet(set)) {
            return no(2);
        }
        if (what < 0 || what > 2) {
            return no(5);
        }
        int[] bar = barred(wants(set));
        return bar == null ? no(8) : yes(bar[what]);
    }

    private int setWhy(int set) {
        return !isSet(set) ? 2 : barred(wants(set)) != null ? 9 : 0;
    }

    long largest(int set) {
        int why = setWhy(set);
        if (why != 0) {
            return no(why);
        }
        town = caps(wants(set));
        return yes(land.stone(town));
    }

    /** By trial of all sets of raised cells where these are few, else by trial strip by strip. */
    private int[] cheapestTown(List<Want> wants, int[] weights, int low) {
        int[] caps = caps(wants);
        List<Integer> free = new ArrayList<>();
        for (int c = land.cells() - 1; c >= 0; c--) {
            if (caps[c] > land.least[c] && c != low) {
                free.add(c);
            }
        }
        if (free.size() > 11) {
            return cheapestBySearch(wants, caps, weights, low);
        }
        int[] best = null;
        long bestWeight = Long.MAX_VALUE;
        // the least number first: cell 0 is its highest bit, so it is LOW as long as may be
        for (int set = 0; set < 1 << free.size(); set++) {
            int[] heights = land.least.clone();
            long weight = 0;
            for (int k = 0; k < free.size(); k++) {
                if ((set >> k & 1) == 1) {
                    heights[free.get(k)] = caps[free.get(k)];
                    weight += weights[free.get(k)];
                }
            }
            if (weight < bestWeight && kept(wants, heights)) {
                best = heights;
                bestWeight = weight;
            }
        }
        return best;
    }

    private int[] cheapestBySearch(List<Want> wants, int[] caps, int[] weights, int low) {
        int[] state = new int[land.cells()];
        for (int c = 0; c < state.length; c++) {
            state[c] = caps[c] == land.least[c] ? 1 : c == low ? -1 : 0;
        }
        long least = search(wants, caps, weights, state, 0, Long.MAX_VALUE);
        if (least == Long.MAX_VALUE) {
            return null;
        }
        int[] heights = land.least.clone();
        for (int c = 0; c < state.length; c++) {
            if (state[c] == 0) {
                state[c] = -1;
                if (search(wants, caps, weights, state, 0, least + 1) > least) {
                    state[c] = 2;
                    heights[c] = caps[c];
                    least -= weights[c];
                    state[c] = 1;
                }
            }
        }
        return heights;
    }

    /** state: -1 must stay low, 1 is at its cap for nothing, 0 may be raised. */
    private long search(List<Want> wants, int[] caps, int[] weights, int[] state, long spent, long bound) {
        List<Integer> fewest = null;
        for (Want w : wants) {
            List<Integer> candidates = new ArrayList<>();
            boolean met = false;
            for (int c : w.cells) {
                if (caps[c] == w.height) {
                    met |= state[c] == 1;
                    if (state[c] == 0) {
                        candidates.add(c);
                    }
                }
            }
            if (!met && (fewest == null || candidates.size() < fewest.size())) {
                fewest = candidates;
            }
        }
        if (fewest == null) {
            return spent;
        }
        long best = Long.MAX_VALUE;
        for (int c : fewest) {
            state[c] = 1;
            if (spent + weights[c] < bound) {
                long found = search(wants, caps, weights, state, spent + weights[c], bound);
                best = Math.min(best, found);
                bound = Math.min(bound, found);
            }
            state[c] = -1;
        }
        for (int c : fewest) {
            state[c] = 0;
        }
        return best;
    }

    private int[] stones(int[] caps) {
        int[] weights = new int[land.cells()];
        for (int c = 0; c < weights.length; c++) {
            weights[c] = (caps[c] - land.least[c]) * land.price[c];
        }
        return weights;
    }

    private int[] cheapestTown(int set) {
        List<Want> wants = wants(set);
        return cheapestTown(wants, stones(caps(wants)), NONE);
    }

    long cheapest(int set) {
        int why = setWhy(set);
        if (why != 0) {
            return no(why);
        }
        town = cheapestTown(set);
        return yes(land.stone(town));
    }

    long least(int set) {
        int why = setWhy(set);
        if (why != 0) {
            return no(why);
        }
        int low = land.stone(cheapestTown(set));
        int high = land.stone(caps(wants(set)));
        if (high > 0) {
            for (int d = high; d > 0; d--) {
                if (high % d == 0 && low % d == 0) {
                    top = low / d;
                    bottom = high / d;
                    break;
                }
            }
        }
        return yes(low);
    }

    long courts(int set) {
        int why = setWhy(set);
        if (why != 0) {
            return no(why);
        }
        List<Want> wants = wants(set);
        int[] ones = new int[land.cells()];
        Arrays.fill(ones, 1);
        int[] best = cheapestTown(wants, ones, NONE);
        int courts = 0;
        for (int c = 0; c < ones.length; c++) {
            courts += best[c] == land.least[c] ? 1 : 0;
        }
        return yes(courts);
    }

    long towns(int set) {
        if (!isSet(set)) {
            return no(2);
        }
        List<Want> wants = wants(set);
        if (wants.size() > 16) {
            return no(7);
        }
        int[] caps = caps(wants);
        for (int c = 0; c < caps.length; c++) {
            if (caps[c] < land.least[c]) {
                return yes(0);
            }
        }
        long all = 1;
        for (int c = 0; c < caps.length && all < 3000; c++) {
            all *= caps[c] - land.least[c] + 1;
        }
        return yes(all < 3000 ? townsOneByOne(wants, caps) : townsBySets(wants, caps));
    }

    private long townsOneByOne(List<Want> wants, int[] caps) {
        int[] heights = land.least.clone();
        long count = 0;
        while (true) {
            count += kept(wants, heights) ? 1 : 0;
            int c = 0;
            while (c < heights.length && heights[c] == caps[c]) {
                heights[c] = land.least[c];
                c++;
            }
            if (c == heights.length) {
                return count;
            }
            heights[c]++;
        }
    }

    /** All towns, less those in which a strip is lower, and so on by turns. */
    private long townsBySets(List<Want> wants, int[] caps) {
        long sum = 0;
        for (int set = 0; set < 1 << wants.size(); set++) {
            int[] upper = caps.clone();
            for (int k = 0; k < wants.size(); k++) {
                if ((set >> k & 1) == 1) {
                    for (int c : wants.get(k).cells) {
                        upper[c] = Math.min(upper[c], wants.get(k).height - 1);
                    }
                }
            }
            long ways = 1;
            for (int c = 0; c < upper.length; c++) {
                ways = ways * Math.max(0, upper[c] - land.least[c] + 1) % 1000007;
            }
            sum += Integer.bitCount(set) % 2 == 0 ? ways : 1000007 - ways;
        }
        return sum % 1000007;
    }

    long sure(int set, int c, int what) {
        if (!isSet(set) || !isCell(c)) {
            return no(2);
        }
        if (what != 0 && what != 1) {
            return no(5);
        }
        int why = setWhy(set);
        if (why != 0) {
            return no(why);
        }
        List<Want> wants = wants(set);
        int[] heights = caps(wants);
        int from = what == 0 ? land.least[c] : land.most[c];
        for (int h = from; h >= 0 && h <= 99; h += what == 0 ? 1 : -1) {
            heights[c] = h;
            if (kept(wants, heights)) {
                return yes(h);
            }
        }
        throw new IllegalStateException();
    }

    long struck() {
        int all = (1 << land.villages.size()) - 1;
        for (int many = 0; many <= land.villages.size(); many++) {
            for (int set = 0; set <= all; set++) {
                if (Integer.bitCount(set) == many && barred(wants(all ^ set)) == null) {
                    return yes(set);
                }
            }
        }
        return no(9);
    }

    // one tower, two towns
    long down(int c) {
        if (!isCell(c)) {
            return no(2);
        }
        int[] other = town.clone();
        if (other[c] > land.least[c]) {
            other[c] = land.least[c];
        }
        List<int[]> before = land.views(town);
        List<int[]> behind = land.views(other);
        int unlike = 0;
        for (int v = 0; v < before.size(); v++) {
            for (int s = 0; s < before.get(v).length; s++) {
                unlike += before.get(v)[s] != behind.get(v)[s] ? 1 : 0;
            }
        }
        return yes(unlike);
    }

    long instead(int c) {
        if (!isCell(c)) {
            return no(2);
        }
        List<Want> wants = new ArrayList<>();
        for (int v = 0; v < land.villages.size(); v++) {
            addWants(wants, v, land.view(land.villages.get(v).side, town));
        }
        int[] caps = caps(wants);
        for (int k = 0; k < caps.length; k++) {
            if (caps[k] < land.least[k]) {
                return no(9);
            }
        }
        int[] best = cheapestTown(wants, stones(caps), c);
        return best == null ? no(9) : yes(land.stone(best));
    }

    long apart(int one, int other, int v) {
        if (one < 0 || one > 3 || other < 0 || other > 3) {
            return no(1);
        }
        if (!isVillage(v)) {
            return no(2);
        }
        if (trays[one] == null || trays[other] == null) {
            return no(3);
        }
        int n = land.cells();
        if (trays[one].length < n || trays[other].length < n) {
            return no(4);
        }
        if (rowWhy(one, n) != 0 || rowWhy(other, n) != 0) {
            return no(5);
        }
        int side = land.villages.get(v).side;
        int s = Arrays.mismatch(land.view(side, row(one, 0, n)), land.view(side, row(other, 0, n)));
        return s < 0 ? no(8) : yes(s);
    }

    long watchers(int t, int many) {
        int why = trayWhy(t);
        why = why != 0 ? why : many < 2 || many > 4 ? 5 : rowWhy(t, many * land.cells());
        if (why != 0) {
            return no(why);
        }
        int n = land.cells();
        int villages = land.villages.size();
        for (int size = 0; size <= villages; size++) {
            for (int set = 0; set < 1 << villages; set++) {
                if (Integer.bitCount(set) == size && watch(set, t, many, n)) {
                    return yes(set);
                }
            }
        }
        return no(9);
    }

    private boolean watch(int set, int t, int many, int n) {
        TreeSet<String> sights = new TreeSet<>();
        for (int r = 0; r < many; r++) {
            StringBuilder all = new StringBuilder();
            for (int v = 0; v < land.villages.size(); v++) {
                if ((set >> v & 1) == 1) {
                    all.append(Arrays.toString(land.view(land.villages.get(v).side, row(t, r * n, n))));
                }
            }
            sights.add(all.toString());
        }
        return sights.size() == many;
    }

    long tenth(int t, int many) {
        int why = trayWhy(t);
        why = why != 0 ? why : many < 1 || many > 9 ? 5 : rowWhy(t, many);
        if (why != 0) {
            return no(why);
        }
        int set = 0;
        for (int side = 0; side < 8; side++) {
            set |= Arrays.equals(land.view(side, town), row(t, 0, many)) ? 1 << side : 0;
        }
        return yes(set);
    }

    long order(int t) {
        int why = trayWhy(t);
        why = why != 0 ? why : rowWhy(t, land.cells());
        if (why != 0) {
            return no(why);
        }
        int[] goal = row(t, 0, land.cells());
        List<Integer> unlike = new ArrayList<>();
        for (int c = 0; c < goal.length; c++) {
            if (goal[c] != town[c]) {
                unlike.add(c);
            }
        }
        if (unlike.size() > 12) {
            return no(7);
        }
        Boolean[] known = new Boolean[1 << unlike.size()];
        List<Integer> found = new ArrayList<>();
        int set = 0;
        while (found.size() < unlike.size()) {
            int k = 0;
            while (k < unlike.size() && ((set >> k & 1) == 1 || !comesToEnd(set | 1 << k, unlike, goal, known))) {
                k++;
            }
            if (k == unlike.size()) {
                return no(9);
            }
            set |= 1 << k;
            found.add(unlike.get(k));
        }
        order = found;
        return yes(found.size());
    }

    private boolean comesToEnd(int set, List<Integer> unlike, int[] goal, Boolean[] known) {
        if (known[set] != null) {
            return known[set];
        }
        int[] heights = town.clone();
        for (int k = 0; k < unlike.size(); k++) {
            if ((set >> k & 1) == 1) {
                heights[unlike.get(k)] = goal[unlike.get(k)];
            }
        }
        boolean good = true;
        for (Village v : land.villages) {
            good &= Arrays.equals(land.view(v.side, town), land.view(v.side, heights));
        }
        boolean comes = good && set == (1 << unlike.size()) - 1;
        for (int k = 0; k < unlike.size() && good && !comes; k++) {
            comes = (set >> k & 1) == 0 && comesToEnd(set | 1 << k, unlike, goal, known);
        }
        known[set] = comes;
        return comes;
    }

    long orderAt(int k) {
        return k < 0 || k >= order.size() ? no(8) : yes(order.get(k));
    }

    long like(int t, int many) {
        int why = trayWhy(t);
        why = why != 0 ? why : many < 1 || many > 9 ? 5 : rowWhy(t, many);
        if (why != 0) {
            return no(why);
        }
        if (land.villages.isEmpty()) {
            return no(8);
        }
        List<Want> wants = new ArrayList<>();
        for (int v = 0; v < land.villages.size(); v++) {
            if (stripsOf(v) != many) {
                return no(9);
            }
            addWants(wants, v, row(t, 0, many));
        }
        return yes(barred(wants) == null ? 1 : 0);
    }

    long highest() {
        for (int n = 99; n >= 0 && !land.villages.isEmpty(); n--) {
            List<Want> wants = new ArrayList<>();
            for (int v = 0; v < land.villages.size(); v++) {
                int[] row = new int[stripsOf(v)];
                Arrays.fill(row, n);
                addWants(wants, v, row);
            }
            if (barred(wants) == null) {
                return yes(n);
            }
        }
        return no(8);
    }

    // masons
    private int s;
    private int done;
    private int laid;
    private int taken;

    private int[] run(int seed, int[] heights) {
        s = seed;
        done = 0;
        laid = 0;
        taken = 0;
        int left = 0;
        try {
            steps(orders, heights);
        } catch (Over over) {
            left = over.left ? 1 : 0;
        }
        return new int[] {laid, taken, left};
    }

    private void steps(List<Step> all, int[] heights) {
        for (Step step : all) {
            if (done == 400) {
                throw new Over(true);
            }
            done++;
            int c = step.b * land.w + step.a;
            switch (step.act) {
                case "raise" -> {
                    for (int k = 0; k < step.number && heights[c] < 99; k++) {
                        heights[c]++;
                        laid++;
                    }
                }
                case "lower" -> {
                    for (int k = 0; k < step.number && heights[c] > 0; k++) {
                        heights[c]--;
                        taken++;
                    }
                }
                case "storm" -> storm(step.number, heights);
                case "when" -> {
                    if (holds(step, heights)) {
                        steps(step.body, heights);
                    }
                }
                case "loop" -> {
                    for (int k = 0; k < step.number; k++) {
                        steps(step.body, heights);
                    }
                }
                default -> throw new Over(false);
            }
        }
    }

    private void storm(int draws, int[] heights) {
        for (int k = 0; k < draws && heights.length > 0; k++) {
            s = (s * 2861 + 12007) % 65536;
            int c = s / 8 % heights.length;
            if (heights[c] > 0) {
                heights[c]--;
                taken++;
            }
        }
    }

    private boolean holds(Step step, int[] heights) {
        int value;
        switch (step.test) {
            case "cell":
                value = heights[step.b * land.w + step.a];
                break;
            case "sees":
                if (!isStrip(step.a, step.c)) {
                    return false;
                }
                value = land.view(land.villages.get(step.a).side, heights)[step.c];
                break;
            case "same":
                Village v = land.villages.get(step.a);
                return v.sky != null && Arrays.equals(v.sky, land.view(v.side, heights));
            default:
                value = land.stone(heights);
                break;
        }
        return step.sign == '<' ? value < step.number : step.sign == '>' ? value > step.number : value == step.number;
    }

    long built(int seed) {
        if (seed < 0 || seed > 9999) {
            return no(5);
        }
        if (orders == null) {
            return no(8);
        }
        building = run(seed, town);
        return yes(done);
    }

    long building(int what) {
        return what < 0 || what > 2 ? no(5) : building == null ? no(8) : yes(building[what]);
    }

    long tally(int seed, int many) {
        if (seed < 0 || seed > 9999 || many < 1 || many > 30 || seed + many - 1 > 9999) {
            return no(5);
        }
        if (orders == null) {
            return no(8);
        }
        int good = 0;
        for (int k = 0; k < many; k++) {
            int[] heights = town.clone();
            run(seed + k, heights);
            good += firstOtherwise(heights) == null ? 1 : 0;
        }
        return yes(good);
    }

    long mark() {
        if (marks.size() == 3) {
            return no(7);
        }
        marks.add(new Object[] {land, town.clone(), orders});
        return yes(marks.size());
    }

    @SuppressWarnings("unchecked")
    long back() {
        if (marks.isEmpty()) {
            return no(8);
        }
        Object[] kept = marks.remove(marks.size() - 1);
        land = (Land) kept[0];
        town = (int[]) kept[1];
        orders = (List<Step>) kept[2];
        return yes(marks.size());
    }
}
