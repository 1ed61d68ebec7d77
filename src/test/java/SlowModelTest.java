import java.util.ArrayList;
import java.util.Arrays;
import java.util.List;
import java.util.Random;
import java.util.TreeMap;

/** Plays random calls on NineSights and on the slow model, and compares each answer and what is told of the state. */
public final class SlowModelTest {
    private static final String[] SIDES = SlowModel.SIDES;
    private static int wrong = 0;
    private static final TreeMap<String, TreeMap<Integer, Integer>> MET = new TreeMap<>();

    private final Random random;
    private final long seed;
    private final NineSights x = new NineSights();
    private final SlowModel m = new SlowModel();
    private final List<String> calls = new ArrayList<>();

    private SlowModelTest(long seed) {
        this.seed = seed;
        random = new Random(seed);
    }

    private static long bit(boolean b) {
        return b ? 1 : 0;
    }

    private void same(String call, long got, long due) {
        calls.add(call + " -> " + got);
        MET.computeIfAbsent(call.substring(0, call.indexOf('(')), k -> new TreeMap<>()).merge(m.status(), 1, Integer::sum);
        boolean good = got == due && x.status() == m.status() && x.top() == m.top() && x.bottom() == m.bottom();
        if (!good) {
            wrong++;
            System.out.println("seed " + seed + ": " + call + " answered " + got + " status " + x.status() + " fraction "
                + x.top() + "/" + x.bottom() + ", due is " + due + " status " + m.status() + " fraction " + m.top() + "/" + m.bottom());
            for (String c : calls.subList(Math.max(0, calls.size() - 40), calls.size())) {
                System.out.println("    " + c);
            }
        }
    }

    private void text(String t, boolean plain, int n) {
        calls.add("text " + t);
        while (t.length() % 20 != 0) {
            t = t + " ";
        }
        for (int i = 0; i < t.length(); i += 20) {
            int[] w = new int[5];
            for (int k = 0; k < 20; k++) {
                w[k / 4] = w[k / 4] << 8 | t.charAt(i + k) & 255;
            }
            same("feed(..)", x.feed(w[0], w[1], w[2], w[3], w[4]), m.feed(w[0], w[1], w[2], w[3], w[4]));
        }
        if (plain) {
            same("plain(" + n + ")", x.plain(n), m.plain(n));
        } else {
            same("orders(" + n + ")", x.orders(n), m.orders(n));
        }
        MET.computeIfAbsent(plain ? "~faults of plain" : "~faults of orders", k -> new TreeMap<>()).merge(m.fault, 1, Integer::sum);
        same("fault(0)", x.fault(0), m.fault(0));
        same("fault(1)", x.fault(1), m.fault(1));
        showAll();
    }

    /** All of the state that calls can tell. */
    private void showAll() {
        for (int k = 0; k < 3; k++) {
            same("many(" + k + ")", x.many(k), m.many(k));
        }
        showTown();
    }

    private void showTown() {
        for (int c = 0; c <= m.land.cells(); c++) {
            same("height(" + c + ")", x.height(c), m.height(c));
        }
    }

    private int some(int n) {
        return random.nextInt(n);
    }

    private boolean chance(int percent) {
        return some(100) < percent;
    }

    private String row(int[] values) {
        StringBuilder b = new StringBuilder();
        for (int v : values) {
            b.append(' ').append(v);
        }
        return b.toString();
    }

    private String plainText(int maxSize, int tall) {
        SlowModel.Land l = new SlowModel.Land();
        l.w = 1 + some(maxSize);
        l.h = 1 + some(maxSize);
        int[] hidden = new int[l.cells()];
        for (int c = 0; c < hidden.length; c++) {
            hidden[c] = some(tall + 1);
        }
        StringBuilder b = new StringBuilder("size " + l.w + " " + l.h + ";");
        for (int y = 0; y < l.h && chance(60); y++) {
            int[] most = new int[l.w];
            int[] least = new int[l.w];
            int[] price = new int[l.w];
            for (int k = 0; k < l.w; k++) {
                int h = hidden[y * l.w + k];
                most[k] = chance(95) ? Math.min(99, h + some(4)) : some(100);
                least[k] = chance(95) ? Math.max(0, h - some(tall + 3)) : some(5);
                price[k] = 1 + some(chance(50) ? 2 : 99);
            }
            b.append("most").append(row(most)).append(chance(50) ? ";" : " ;\n ");
            b.append("least").append(row(least)).append(";");
            if (chance(50)) {
                b.append("price").append(row(price)).append("; ");
            }
        }
        int villages = some(7);
        for (int v = 0; v < villages; v++) {
            int side = some(8);
            b.append("village ").append((char) ('a' + v)).append(chance(50) ? "x" : "b").append(' ').append(SIDES[side]);
            if (chance(70)) {
                int[] sky = l.view(side, hidden);
                if (chance(10)) {
                    sky[some(sky.length)] = some(tall + 2);
                }
                b.append(" sees").append(row(sky));
            }
            b.append("; ");
        }
        return b.toString();
    }

    private String name() {
        if (m.land.villages.isEmpty() || chance(3)) {
            return "zz";
        }
        return m.land.villages.get(some(m.land.villages.size())).name();
    }

    private String cellText() {
        int x = m.land.w == 0 ? 0 : some(m.land.w);
        int y = m.land.h == 0 ? 0 : some(m.land.h);
        return (chance(1) ? x + 5 : x) + " " + (chance(1) ? y + 5 : y);
    }

    private String stepsText(int depth) {
        StringBuilder b = new StringBuilder();
        int n = some(5) + (depth == 0 ? 1 : 0);
        for (int k = 0; k < n; k++) {
            switch (some(8)) {
                case 0, 1 -> b.append("raise ").append(cellText()).append(chance(50) ? " by " + (1 + some(12)) : "").append(";");
                case 2 -> b.append("lower ").append(cellText()).append(chance(50) ? " by " + (1 + some(12)) : "").append(";");
                case 3 -> b.append("storm ").append(1 + some(chance(80) ? 6 : 99)).append(";");
                case 4 -> {
                    if (chance(15)) {
                        b.append("stop;");
                    }
                }
                case 5, 6 -> {
                    if (depth < 3 || chance(2)) {
                        b.append("when ").append(testText()).append("; ").append(stepsText(depth + 1)).append("end;");
                    }
                }
                default -> {
                    if (depth < 3 || chance(2)) {
                        b.append("loop ").append(1 + some(chance(80) ? 5 : 99)).append("; ").append(stepsText(depth + 1))
                            .append("end ;\n");
                    }
                }
            }
        }
        return b.toString();
    }

    private String testText() {
        String sign = " " + "<>=".charAt(some(3)) + " ";
        return switch (some(4)) {
            case 0 -> "cell " + cellText() + sign + some(10);
            case 1 -> "sees " + name() + " at " + some(9) + sign + some(10);
            case 2 -> "same " + name();
            default -> "stone" + sign + some(60);
        };
    }

    private String spoil(String t) {
        String[] bits = {";", "=", "<", "#", "\t", " 100 ", " 0 ", "12345", "1234", " ", "\n", " village ", " sees ", " end;", " ne ",
            " abcdefghi ", " abcdefgh ", " most 1;", " least 2 3;", " price 0;", " size ", "stop;", "when", " by ", "\u00e9", "A",
            " loop 2; ", " 99", " a ", ""};
        int at = some(t.length() + 1);
        int cut = Math.min(t.length() - at, chance(50) ? 0 : some(6));
        return t.substring(0, at) + bits[some(bits.length)] + t.substring(at + cut);
    }

    private static int edge(Random r) {
        int[] edges = {-1, 0, 1, 2, 3, 4, 5, 6, 7, 8, 9, 24, 25, 26, 60, 61, 99, 100, 9999, 10000, Integer.MAX_VALUE, Integer.MIN_VALUE};
        return edges[r.nextInt(edges.length)];
    }

    private int mostly(int n) {
        return chance(4) ? edge(random) : some(Math.max(1, n));
    }

    private int anySet() {
        return chance(25) ? (1 << m.land.villages.size()) - 1 : mostly(1 << m.land.villages.size());
    }

    private int anyCell() {
        return mostly(m.land.cells());
    }

    private void fillTray(int t, int many) {
        int sort = some(4);
        same("tray(" + t + ", " + sort + ", " + many + ")", bit(x.tray(t, sort, many)), m.tray(t, sort, many));
        for (int k = 0; k < Math.min(many, 60); k++) {
            long v = chance(70) && m.town.length > 0 ? m.town[k % m.town.length] : some(4);
            if (chance(1)) {
                v = random.nextLong();
            }
            same("write(" + t + ", " + k + ", " + v + ")", bit(x.write(t, k, v)), m.write(t, k, v));
        }
    }

    private void trayCall() {
        int t = mostly(4);
        int u = mostly(4);
        switch (some(4)) {
            case 0 -> {
                int sort = mostly(4);
                int many = chance(50) ? mostly(62) : m.land.cells();
                same("tray(" + t + ", " + sort + ", " + many + ")", bit(x.tray(t, sort, many)), m.tray(t, sort, many));
            }
            case 1 -> {
                int p = mostly(30);
                long v = chance(50) ? some(100) : random.nextLong();
                same("write(" + t + ", " + p + ", " + v + ")", bit(x.write(t, p, v)), m.write(t, p, v));
            }
            case 2 -> {
                int p = mostly(30);
                same("read(" + t + ", " + p + ")", x.read(t, p), m.read(t, p));
            }
            default -> {
                int i = mostly(10);
                int j = mostly(10);
                int many = mostly(10);
                same("pour(" + t + ", " + i + ", " + u + ", " + j + ", " + many + ")", bit(x.pour(t, i, u, j, many)),
                    m.pour(t, i, u, j, many));
                for (int k = 0; k < 20; k++) {
                    same("read(" + u + ", " + k + ")", x.read(u, k), m.read(u, k));
                }
            }
        }
    }

    private void readCall() {
        int a = mostly(10);
        int b = mostly(10);
        int c = anyCell();
        switch (some(9)) {
            case 0 -> same("cell(" + c + ", " + b + ")", x.cell(c, b % 5), m.cell(c, b % 5));
            case 1 -> same("village(" + a + ", " + b + ")", x.village(a, b), m.village(a, b));
            case 2 -> same("promised(" + a + ", " + b + ")", x.promised(a, b), m.promised(a, b));
            case 3 -> same("strip(" + a + ", " + c + ")", x.strip(a, c), m.strip(a, c));
            case 4 -> same("height(" + c + ")", x.height(c), m.height(c));
            case 5 -> {
                int h = mostly(10);
                same("build(" + c + ", " + h + ")", bit(x.build(c, h)), m.build(c, h));
            }
            case 6 -> same("seen(" + a + ", " + b + ")", x.seen(a, b), m.seen(a, b));
            case 7 -> same("otherwise(" + b + ")", x.otherwise(b % 3), m.otherwise(b % 3));
            default -> same("stone()", x.stone(), m.stone());
        }
    }

    private void promiseCall() {
        int set = anySet();
        int c = anyCell();
        int what = mostly(3);
        switch (some(10)) {
            case 0 -> same("cap(" + c + ", " + set + ")", x.cap(c, set), m.cap(c, set));
            case 1 -> same("can(" + set + ")", x.can(set), m.can(set));
            case 2 -> same("barred(" + set + ", " + what + ")", x.barred(set, what), m.barred(set, what));
            case 3 -> same("largest(" + set + ")", x.largest(set), m.largest(set));
            case 4 -> {
                same("cheapest(" + set + ")", x.cheapest(set), m.cheapest(set));
                showTown();
            }
            case 5 -> same("least(" + set + ")", x.least(set), m.least(set));
            case 6 -> same("courts(" + set + ")", x.courts(set), m.courts(set));
            case 7 -> same("towns(" + set + ")", x.towns(set), m.towns(set));
            case 8 -> same("sure(" + set + ", " + c + ", " + what + ")", x.sure(set, c, what), m.sure(set, c, what));
            default -> same("struck()", x.struck(), m.struck());
        }
    }

    private void twoTownsCall() {
        int t = mostly(4);
        int u = mostly(4);
        int c = anyCell();
        switch (some(9)) {
            case 0 -> same("down(" + c + ")", x.down(c), m.down(c));
            case 1 -> same("instead(" + c + ")", x.instead(c), m.instead(c));
            case 2 -> {
                int v = mostly(m.land.villages.size());
                same("apart(" + t + ", " + u + ", " + v + ")", x.apart(t, u, v), m.apart(t, u, v));
            }
            case 3 -> {
                int many = chance(90) ? 2 + some(3) : mostly(6);
                if (chance(60) && t >= 0 && t < 4) {
                    fillTray(t, Math.min(60, many * m.land.cells()));
                }
                same("watchers(" + t + ", " + many + ")", x.watchers(t, many), m.watchers(t, many));
            }
            case 4 -> {
                int many = mostly(11);
                if (chance(60) && t >= 0 && t < 4) {
                    int[] view = m.land.view(some(8), m.town);
                    many = view.length;
                    same("tray", view);
                    many = toldRow(t, view);
                }
                same("tenth(" + t + ", " + many + ")", x.tenth(t, many), m.tenth(t, many));
            }
            case 5 -> orderCall(t);
            case 6 -> same("orderAt(" + c + ")", x.orderAt(c), m.orderAt(c));
            case 7 -> {
                int many = mostly(11);
                if (chance(70) && t >= 0 && t < 4 && !m.land.villages.isEmpty()) {
                    many = toldRow(t, m.land.view(m.land.villages.get(0).side(), m.land.most));
                }
                same("like(" + t + ", " + many + ")", x.like(t, many), m.like(t, many));
            }
            default -> same("highest()", x.highest(), m.highest());
        }
    }

    private void same(String what, int[] row) {
        calls.add(what + " " + Arrays.toString(row));
    }

    private int toldRow(int t, int[] row) {
        same("tray(" + t + ", 1, " + row.length + ")", bit(x.tray(t, 1, row.length)), m.tray(t, 1, row.length));
        for (int k = 0; k < row.length; k++) {
            same("write(" + t + ", " + k + ", " + row[k] + ")", bit(x.write(t, k, row[k])), m.write(t, k, row[k]));
        }
        return row.length;
    }

    private void orderCall(int t) {
        if (chance(80) && t >= 0 && t < 4) {
            int[] goal = m.town.clone();
            for (int c = 0; c < goal.length; c++) {
                if (chance(40)) {
                    goal[c] = chance(50) ? some(4) : m.town[some(goal.length)];
                }
            }
            toldRow(t, goal);
        }
        same("order(" + t + ")", x.order(t), m.order(t));
        for (int k = -1; k < 13; k++) {
            same("orderAt(" + k + ")", x.orderAt(k), m.orderAt(k));
        }
        if (chance(40)) {
            same("buildAll(" + t + ")", bit(x.buildAll(t)), m.buildAll(t));
            showTown();
        }
    }

    private void masonCall() {
        switch (some(6)) {
            case 0 -> {
                String t = stepsText(0);
                t = chance(20) ? spoil(t) : t;
                text(t, false, Math.min(t.length(), chance(96) ? 300 : 301));
            }
            case 1 -> {
                int s = mostly(10000);
                same("built(" + s + ")", x.built(s), m.built(s));
                showTown();
            }
            case 2, 3 -> {
                int what = mostly(3);
                same("building(" + what + ")", x.building(what), m.building(what));
            }
            case 4 -> {
                int s = chance(5) ? 9970 + some(35) : mostly(10000);
                int many = mostly(31);
                same("tally(" + s + ", " + many + ")", x.tally(s, many), m.tally(s, many));
            }
            default -> {
                if (chance(50)) {
                    same("mark()", x.mark(), m.mark());
                } else {
                    same("back()", x.back(), m.back());
                    showAll();
                }
            }
        }
    }

    private void play(int moves, int maxSize, int tall) {
        for (int k = 0; k < moves && wrong == 0; k++) {
            int kind = some(100);
            if (kind < 4 || k == 3) {
                String t = plainText(maxSize, tall);
                t = chance(25) ? spoil(t) : t;
                if (t.length() <= 880) {
                    int n = chance(97) ? t.length() : mostly(901);
                    text(t, true, n);
                }
            } else if (kind < 15) {
                trayCall();
            } else if (kind < 35) {
                readCall();
            } else if (kind < 65) {
                promiseCall();
            } else if (kind < 85) {
                twoTownsCall();
            } else {
                masonCall();
            }
        }
    }

    /** Full 5 by 5 plains, on which everything is as dear as it can be. */
    private void playLarge() {
        int tall = 1 + some(2);
        StringBuilder b = new StringBuilder("size 5 5; ");
        SlowModel.Land l = new SlowModel.Land();
        l.w = 5;
        l.h = 5;
        int[] hidden = new int[25];
        Arrays.fill(hidden, tall);
        for (int k = some(4); k > 0; k--) {
            hidden[some(25)] = some(tall + 1);
        }
        for (int y = 0; y < 5; y++) {
            int[] price = new int[5];
            for (int k = 0; k < 5; k++) {
                price[k] = chance(50) ? 1 : 1 + some(3);
            }
            b.append("price").append(row(price)).append("; ");
        }
        int first = some(8);
        for (int v = 0; v < 4; v++) {
            int side = (first + v) % 8;
            b.append("village ").append((char) ('a' + v)).append("q ").append(SIDES[side]).append(" sees")
                .append(row(l.view(side, hidden))).append("; ");
        }
        text(b.toString(), true, b.length());
        for (int set = 0; set < 16; set++) {
            if (Integer.bitCount(set) > 2 || chance(30)) {
                same("cheapest(" + set + ")", x.cheapest(set), m.cheapest(set));
                showTown();
                same("courts(" + set + ")", x.courts(set), m.courts(set));
            }
        }
        int c = some(25);
        same("instead(" + c + ")", x.instead(c), m.instead(c));
    }

    /** As many strips as towns() takes, nearly all of them open for long. */
    private void playTowns() {
        SlowModel.Land l = new SlowModel.Land();
        l.w = 2 + some(4);
        l.h = 2 + some(4);
        int[] hidden = new int[l.cells()];
        for (int c = 0; c < hidden.length; c++) {
            hidden[c] = chance(85) ? 2 : some(3);
        }
        StringBuilder b = new StringBuilder("size " + l.w + " " + l.h + "; ");
        int strips = 0;
        int first = some(8);
        for (int k = 0; k < 4; k++) {
            int side = (first + k) % 8;
            int[] view = l.view(side, hidden);
            if (strips + view.length <= 16) {
                strips += view.length;
                b.append("village ").append((char) ('a' + k)).append("q ").append(SIDES[side]).append(" sees")
                    .append(row(view)).append("; ");
            }
        }
        text(b.toString(), true, b.length());
        int all = (1 << m.land.villages.size()) - 1;
        same("towns(" + all + ")", x.towns(all), m.towns(all));
        for (int c = 0; c < l.cells(); c++) {
            same("sure(" + all + ", " + c + ", 0)", x.sure(all, c, 0), m.sure(all, c, 0));
        }
    }

    public static void main(String[] args) {
        int runs = args.length > 0 ? Integer.parseInt(args[0]) : 4000;
        long from = args.length > 1 ? Long.parseLong(args[1]) : 0;
        for (long seed = from; seed < from + runs && wrong == 0; seed++) {
            int size = seed % 8 == 0 ? 5 : seed % 2 == 0 ? 3 : 4;
            new SlowModelTest(seed).play(140, size, seed % 3 == 0 ? 2 : seed % 3 == 1 ? 5 : 20);
            if (seed % 100 == 0) {
                new SlowModelTest(seed + 1_000_000).playLarge();
                new SlowModelTest(seed + 2_000_000).playTowns();
            }
        }
        if (args.length > 2) {
            MET.forEach((call, statuses) -> System.out.println(call + " " + statuses));
        }
        System.out.println(wrong == 0 ? "NineSights answers as the slow model" : "NineSights does not answer as the slow model");
        if (wrong != 0) {
            System.exit(1);
        }
    }
}
