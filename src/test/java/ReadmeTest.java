import java.io.IOException;
import java.lang.reflect.Method;
import java.lang.reflect.Modifier;
import java.nio.file.Files;
import java.nio.file.Path;
import java.util.List;
import java.util.regex.Matcher;
import java.util.regex.Pattern;
import java.util.stream.Collectors;
import java.util.stream.Stream;

/** README.md says how to use the class: its example answers so, its texts are taken, it names all there is. */
public final class ReadmeTest extends Bench {
    private static String page = "";

    private static List<String> block(String kind) {
        Matcher m = Pattern.compile("(?s)```" + kind + "\n(.*?)```").matcher(page);
        due("README.md has a block of " + kind, m.find(), (Object) true);
        return m.group(1).lines().toList();
    }

    private static int[] numbers(String arguments) {
        return Stream.of(arguments.split(",")).map(String::trim).filter(t -> !t.isEmpty()).mapToInt(Integer::decode).toArray();
    }

    /** A call as the page writes it; behind "//" stands its answer, if one is told. */
    private static void play(String line) throws ReflectiveOperationException {
        Matcher m = Pattern.compile("x\\.(\\w+)\\(([^)]*)\\);\\s*(?:// (-?\\d+).*)?").matcher(line);
        if (!m.matches()) {
            return;
        }
        int[] given = numbers(m.group(2));
        Class<?>[] types = new Class<?>[given.length];
        Object[] values = new Object[given.length];
        for (int k = 0; k < given.length; k++) {
            types[k] = int.class;
            values[k] = given[k];
        }
        Object answer = NineSights.class.getMethod(m.group(1), types).invoke(x, values);
        if (m.group(3) != null) {
            due(line, answer, (Object) Integer.valueOf(m.group(3)));
        }
    }

    private static void example() throws ReflectiveOperationException {
        begin(0);
        List<String> lines = block("java");
        due("answers that the example tells", lines.stream().filter(l -> l.matches("x\\..*// -?\\d.*")).count(), 4);
        for (String line : lines) {
            play(line);
        }
    }

    /** Three blanks part a text from what is said of it. */
    private static void texts() {
        begin(0);
        List<String> told = block("text").stream().map(l -> l.replaceAll("(?<=\\S) {3}.*", "")).toList();
        int gap = told.indexOf("");
        takenAsPlain(String.join("\n", told.subList(0, gap)), 6);
        is("villages", x.many(2), 2);
        is("the least of the first cell", x.cell(0, 1), 1);
        is("the least of a row that is not told", x.cell(3, 1), 0);
        is("the skyline can be kept", x.can(3), 1);
        takenAsOrders(String.join("\n", told.subList(gap + 1, told.size())), 8);
        due("the orders can be carried out", x.built(0) > 0, (Object) true);
    }

    private static void namesAll() throws IOException {
        for (Method m : NineSights.class.getDeclaredMethods()) {
            if (Modifier.isPublic(m.getModifiers())) {
                due("README.md names " + m.getName(), page.contains("`" + m.getName() + "`"), (Object) true);
            }
        }
        try (Stream<Path> files = Files.list(Path.of("src/test/java"))) {
            for (Path file : files.collect(Collectors.toList())) {
                String name = file.getFileName().toString().replace(".java", "");
                due("README.md names " + name, page.contains("`" + name + "`"), (Object) true);
            }
        }
    }

    public static void main(String[] args) throws Exception {
        page = Files.readString(Path.of("README.md"));
        example();
        texts();
        namesAll();
        end();
    }
}
