import java.io.IOException;
import java.io.UncheckedIOException;
import java.lang.reflect.Method;
import java.lang.reflect.Modifier;
import java.nio.file.Files;
import java.nio.file.Path;
import java.util.ArrayList;
import java.util.List;
import java.util.Map;
import java.util.TreeMap;

/** README.md: its example is the one below, and its tables tell of each call of the face and what it throws. */
public final class ReadmeTest {
    private static final Path README = Path.of("README.md");
    private static final Path OWN_TEXT = Path.of("src", "test", "java", "ReadmeTest.java");
    private static final Map<String, String> SHORT_NAMES = Map.of("index", "IndexOutOfBoundsException",
            "argument", "IllegalArgumentException", "state", "IllegalStateException");

    private static final Check CHECK = new Check("ReadmeTest");

    public static void main(String[] args) {
        example();
        exampleIsThatOfThePage();
        tables();
        tests();
        CHECK.end();
    }

    private static void example() {
        // the example begins
        GrandsireLoft loft = new GrandsireLoft();
        loft.change(0);                              // all neighbours swap
        loft.change(9);                              // the places 0 and 3 are made: 2^0 + 2^3
        int hunt = loft.method(4);                   // a lead of these two changes, on the bells 0 to 3
        int touch = loft.compose(hunt, 4);           // four leads that are true and come round
        loft.plan(loft.today(), touch);
        loft.ring(touch, 1, 200);                    // people ring the bell 0 (2^0), the trainer the others
        int error = loft.pull(0, loft.due(0) + 60);  // a pull of the bell 0, 60 behind its time
        int late = loft.late(0);                     // 1: more than a quarter of the gap of 200 behind
        int done = loft.stand();                     // 1: the row was done with that pull, then all stand
        // the example ends
        CHECK.same("the method of the example", 0, hunt);
        CHECK.same("the touch of the example", 0, touch);
        CHECK.yes("it is true", loft.isTrue(touch));
        CHECK.yes("it comes round", loft.comesRound(touch));
        CHECK.same("the error of the example", 60, error);
        CHECK.same("late of the example", 1, late);
        CHECK.same("done of the example", 1, done);
    }

    private static void exampleIsThatOfThePage() {
        List<String> here = linesBetween(OWN_TEXT, "// the example begins", "// the example ends");
        List<String> there = linesBetween(README, "```java", "```");
        CHECK.yes("the example has lines", !here.isEmpty());
        CHECK.yes("the example of README.md is the one that is tested", here.equals(there));
    }

    private static List<String> linesBetween(Path file, String first, String last) {
        List<String> between = new ArrayList<>();
        boolean isWithin = false;
        for (String line : lines(file)) {
            String text = line.strip();
            if (isWithin && text.equals(last)) {
                return between;
            }
            if (isWithin) {
                between.add(text);
            }
            isWithin |= text.equals(first);
        }
        return between;
    }

    private static void tables() {
        Map<String, String> told = new TreeMap<>();
        for (String line : lines(README)) {
            if (line.startsWith("| `")) {
                String[] cells = line.split("\\|", -1);
                String call = cells[1].replace("`", "").strip();
                CHECK.yes(call + " is told what it is for", !cells[2].isBlank());
                CHECK.yes(call + " is told once", told.put(shape(call), thrownByCell(cells[3])) == null);
            }
        }
        for (Method method : GrandsireLoft.class.getDeclaredMethods()) {
            if (Modifier.isPublic(method.getModifiers())) {
                String shape = method.getName() + "/" + method.getParameterCount();
                String due = thrownBy(method);
                String got = told.remove(shape);
                CHECK.yes(shape + " throws" + due + ", told is" + got, due.equals(got));
            }
        }
        CHECK.yes("no calls are told that are not there: " + told.keySet(), told.isEmpty());
    }

    /** The name of a call and how many arguments it has. */
    private static String shape(String call) {
        String name = call.substring(0, call.indexOf('('));
        String arguments = call.substring(call.indexOf('(') + 1, call.indexOf(')'));
        return name + "/" + (arguments.isEmpty() ? 0 : arguments.split(",").length);
    }

    private static String thrownByCell(String cell) {
        StringBuilder names = new StringBuilder();
        for (String part : cell.split(";")) {
            int colon = part.indexOf(':');
            if (colon > 0) {
                names.append(' ').append(SHORT_NAMES.get(part.substring(0, colon).strip()));
            }
        }
        return names.toString();
    }

    private static String thrownBy(Method method) {
        StringBuilder names = new StringBuilder();
        for (Class<?> thrown : method.getExceptionTypes()) {
            names.append(' ').append(thrown.getSimpleName());
        }
        return names.toString();
    }

    private static void tests() {
        String page = String.join("\n", lines(README));
        String[] files = OWN_TEXT.getParent().toFile().list();
        for (String file : files == null ? new String[0] : files) {
            String name = "`" + file.replace(".java", "") + "`";
            CHECK.yes("README.md tells of the test " + name, page.contains(name));
        }
    }

    private static List<String> lines(Path file) {
        try {
            return Files.readAllLines(file);
        } catch (IOException missing) {
            throw new UncheckedIOException(missing);
        }
    }
}
