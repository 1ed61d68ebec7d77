import java.lang.reflect.Array;
import java.lang.reflect.Field;
import java.lang.reflect.Method;
import java.lang.reflect.Modifier;
import java.nio.file.Files;
import java.nio.file.Path;
import java.util.ArrayList;
import java.util.IdentityHashMap;
import java.util.List;
import java.util.Map;
import java.util.TreeSet;
import java.util.regex.Matcher;
import java.util.regex.Pattern;

/** Those rules of LANGUAGE.md that a program can look after: the face, the words, the sizes, the room. */
public final class LanguageTest {
    private static int wrong = 0;

    private static void due(boolean good, String what) {
        if (!good) {
            wrong++;
            System.out.println(what);
        }
    }

    private static String signature(Method m) {
        StringBuilder b = new StringBuilder(m.getReturnType() + " " + m.getName() + "(");
        for (Class<?> p : m.getParameterTypes()) {
            b.append(p).append(',');
        }
        return b.append(')').toString();
    }

    private static TreeSet<String> faceOfDocument() throws Exception {
        String doc = Files.readString(Path.of("../shared/DOC.md"));
        TreeSet<String> face = new TreeSet<>();
        Matcher m = Pattern.compile("public (int|long|boolean) (\\w+)\\(([^)]*)\\);").matcher(doc);
        while (m.find()) {
            StringBuilder b = new StringBuilder(m.group(1) + " " + m.group(2) + "(");
            for (String p : m.group(3).isEmpty() ? new String[0] : m.group(3).split(",")) {
                b.append(p.trim().split(" ")[0]).append(',');
            }
            face.add(b.append(')').toString());
        }
        return face;
    }

    private static void face() throws Exception {
        TreeSet<String> told = faceOfDocument();
        TreeSet<String> names = new TreeSet<>();
        TreeSet<String> found = new TreeSet<>();
        for (Method m : NineSights.class.getDeclaredMethods()) {
            if (Modifier.isPublic(m.getModifiers())) {
                found.add(signature(m));
                names.add(m.getName());
            } else {
                due(Modifier.isPrivate(m.getModifiers()), "rule 1: neither public nor private: " + m);
            }
        }
        due(told.equals(found), "rule 1: the face is " + found + ", due is " + told);
        for (Field f : NineSights.class.getDeclaredFields()) {
            boolean constant = f.getName().equals("NONE") && Modifier.isPublic(f.getModifiers());
            due(constant || Modifier.isPrivate(f.getModifiers()), "rule 1: " + f);
        }
        due(NineSights.class.getDeclaredClasses().length <= 11, "rule 11: classes");
        for (Class<?> c : allClasses()) {
            boolean outer = c == NineSights.class;
            due(outer || Modifier.isStatic(c.getModifiers()) && !Modifier.isPublic(c.getModifiers()), "rule 2: " + c);
            int fields = 0;
            for (Field f : c.getDeclaredFields()) {
                boolean isStatic = Modifier.isStatic(f.getModifiers());
                due(!isStatic || Modifier.isFinal(f.getModifiers()), "rule 5: " + f);
                fields += isStatic ? 0 : 1;
            }
            due(fields <= 20, "rule 11: " + fields + " fields in " + c);
            for (Method m : c.getDeclaredMethods()) {
                due(m.getParameterCount() <= 7, "rule 11: parameters of " + m);
                due(outer && Modifier.isPublic(m.getModifiers()) || !names.contains(m.getName()), "rule 1: the name of " + m);
            }
        }
    }

    private static List<Class<?>> allClasses() {
        List<Class<?>> all = new ArrayList<>(List.of(NineSights.class.getDeclaredClasses()));
        all.add(NineSights.class);
        return all;
    }

    private static void words() throws Exception {
        String source = Files.readString(Path.of("src/main/java/NineSights.java"));
        String code = source.replaceAll("(?s)/\\*.*?\\*/", "").replaceAll("//[^\n]*", "").replaceAll("\"[^\"]*\"", "\"\"");
        String[] never = {"\\bthrow\\b", "\\btry\\b", "\\bcatch\\b", "\\bsynchronized\\b", "\\bassert\\b", "->", "::", "Exact\\b",
            "static \\{", "\\bString\\.format", "\\bdouble\\b", "\\bfloat\\b", "\\bnull\\b", "\\bpackage\\b", "\\bSystem\\.(?!arraycopy)",
            "\\bthis\\b", "@", "\\bnew \\w+\\([^)]*\\) \\{"};
        for (String word : never) {
            Matcher m = Pattern.compile(word).matcher(code);
            due(!m.find(), "a word that is not to be there: " + word);
        }
        Matcher imports = Pattern.compile("import ([^;]*);").matcher(code);
        while (imports.find()) {
            due(imports.group(1).equals("java.util.Arrays"), "rule 4: import " + imports.group(1));
        }
        int begun = -1;
        String[] lines = source.split("\n");
        for (int k = 0; k < lines.length; k++) {
            due(lines[k].length() <= 125, "a long line: " + (k + 1));
            if (lines[k].matches("( {4}| {8})(public |private |static |final )*[\\w\\[\\]]+ ?\\w*\\(.*\\) \\{")) {
                begun = k;
            } else if (lines[k].matches("( {4}| {8})\\}") && begun >= 0) {
                due(k - begun < 60, "rule 11: a long method at " + (begun + 1));
                begun = -1;
            }
        }
    }

    private static void feed(NineSights x, String text) {
        String t = text + " ".repeat((20 - text.length() % 20) % 20);
        for (int i = 0; i < t.length(); i += 20) {
            int[] w = new int[5];
            for (int k = 0; k < 20; k++) {
                w[k / 4] = w[k / 4] << 8 | t.charAt(i + k);
            }
            x.feed(w[0], w[1], w[2], w[3], w[4]);
        }
    }

    /** The dearest town there is; the states of its needs are the largest row that is ever made. */
    private static void room() throws Exception {
        NineSights x = new NineSights();
        String text = "size 5 5; village a n sees 1 1 1 1 1; village b e sees 1 1 1 1 1; "
            + "village c ne sees 0 1 1 1 1 1 1 1 0; village d nw sees 0 1 1 1 1 1 1 1 0;";
        feed(x, text);
        due(x.plain(text.length()) == 25, "the plain is taken");
        for (int set = 0; set < 16; set++) {
            due(x.cheapest(set) >= 0 && x.courts(set) >= 0, "set " + set + " can be kept");
        }
        long[] counted = new long[2];
        count(x, new IdentityHashMap<>(), counted);
        System.out.println("room of one object: " + counted[0] + " objects, " + counted[1] + " fields and elements");
        due(counted[0] <= 300 && counted[1] <= 40000, "the room of one object");
    }

    /** No call makes an object: all calls of a run live in the room that the constructor took. */
    private static void callsMakeNothing() {
        NineSights x = new NineSights();
        String text = "size 5 5; village a n sees 1 1 1 1 1; village b e sees 1 1 1 1 1; village c ne; village d nw;";
        String steps = "loop 9; storm 9; when sees a at 1 > 0; raise 1 1; end; end;";
        long[] taken = new long[2];
        for (int turn = 0; turn < 2; turn++) {
            feed(x, text);
            x.plain(text.length());
            feed(x, steps);
            long before = allocated();
            x.orders(steps.length());
            x.tray(0, 0, 50);
            askAll(x);
            taken[turn] = allocated() - before;
        }
        System.out.println("bytes made by calls: " + taken[1]);
        due(taken[1] < 2000, "rule 12: calls make " + taken[1] + " bytes");
    }

    private static long allocated() {
        return ((com.sun.management.ThreadMXBean) java.lang.management.ManagementFactory.getThreadMXBean()).getCurrentThreadAllocatedBytes();
    }

    private static void askAll(NineSights x) {
        for (int set = 0; set < 16; set++) {
            x.largest(set);
            x.cheapest(set);
            x.least(set);
            x.courts(set);
            x.towns(set);
            x.sure(set, 12, 0);
            x.barred(set, 0);
            x.instead(set);
            x.down(set);
            x.write(0, set, set % 3);
            x.order(0);
            x.apart(0, 0, set % 4);
            x.watchers(0, 2);
            x.tenth(0, 5);
            x.like(0, 5);
            x.built(set);
            x.tally(set, 30);
            x.mark();
            x.struck();
            x.highest();
            x.otherwise(0);
            x.back();
            x.pour(0, 0, 0, 1, 9);
        }
    }

    private static void count(Object o, Map<Object, Boolean> met, long[] counted) throws Exception {
        if (o == null || met.put(o, true) != null) {
            return;
        }
        counted[0]++;
        if (o.getClass().isArray()) {
            counted[1] += Array.getLength(o);
            for (int k = 0; k < Array.getLength(o) && !o.getClass().getComponentType().isPrimitive(); k++) {
                count(Array.get(o, k), met, counted);
            }
            return;
        }
        for (Field f : o.getClass().getDeclaredFields()) {
            if (!Modifier.isStatic(f.getModifiers())) {
                counted[1]++;
                f.setAccessible(true);
                if (!f.getType().isPrimitive()) {
                    count(f.get(o), met, counted);
                }
            }
        }
    }

    public static void main(String[] args) throws Exception {
        face();
        words();
        room();
        callsMakeNothing();
        System.out.println(wrong == 0 ? "the rules are kept" : wrong + " rules are broken");
        if (wrong != 0) {
            System.exit(1);
        }
    }
}
