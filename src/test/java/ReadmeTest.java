import java.io.IOException;
import java.lang.reflect.Method;
import java.lang.reflect.Modifier;
import java.nio.file.Files;
import java.nio.file.Path;
import java.util.ArrayList;
import java.util.List;
import java.util.TreeSet;

/** README.md tells how the class is used: its example is so, and its tables leave nothing out. */
public final class ReadmeTest {
    private static final Check CHECK = new Check("ReadmeTest");
    private static final Path README = Path.of("README.md");
    private static final Path TESTS = Path.of("src/test/java");

    public static void main(String[] args) throws IOException {
        String text = Files.readString(README);
        example(text);
        eachCallOnce(text);
        eachRefusal(text);
        eachTest(text);
        CHECK.end();
    }

    private static void row(String text, String call, long due, long got) {
        CHECK.holds("README has " + call, text.contains(call));
        CHECK.due("README's " + call, due, got);
    }

    private static void example(String text) {
        FurnitureCure x = new FurnitureCure();
        row(text, "x.piece(0, 3, 4, 5);          // 1:", 1, x.piece(0, 3, 4, 5));
        row(text, "x.room(0, 0, -1);             // 10:", 10, x.room(0, 0, -1));
        row(text, "x.room(0, 1, -2);             // 10", 10, x.room(0, 1, -2));
        row(text, "x.room(0, 2, -5);             // 10", 10, x.room(0, 2, -5));
        row(text, "x.stays(0);                   // 3:", 3, x.stays(0));
        row(text, "x.say('A');", 1, x.say('A'));
        row(text, "x.say('!');       // 1, 2:", 2, x.say('!'));
        row(text, "x.say('.');                   // 3:", 3, x.say('.'));
        row(text, "x.behind(0, 0);               // 0:", 0, x.behind(0, 0));
        row(text, "x.done();                     // 2 acts", 2, x.done());
        CHECK.due("README's empty pad", 0, x.told(0));
        row(text, "x.told(10);                   // 0:", 0, x.told(10));
        row(text, "x.leave(1);                   // -1, UNKNOWN:", FurnitureCure.UNKNOWN, x.leave(1));
    }

    /** A row for each method of the face, with as many numbers as it takes. */
    private static void eachCallOnce(String text) {
        List<String> told = new ArrayList<>();
        for (String line : text.split("\n")) {
            if (line.startsWith("| `") && line.contains("(") && line.indexOf('(') < line.indexOf('`', 3)) {
                String call = line.substring(3, line.indexOf('`', 3));
                String numbers = call.substring(call.indexOf('(') + 1, call.length() - 1);
                int count = numbers.isEmpty() ? 0 : numbers.split(",").length;
                told.add(call.substring(0, call.indexOf('(')) + " " + count);
            }
        }
        TreeSet<String> face = new TreeSet<>();
        for (Method m : FurnitureCure.class.getDeclaredMethods()) {
            if (Modifier.isPublic(m.getModifiers())) {
                face.add(m.getName() + " " + m.getParameterCount());
            }
        }
        CHECK.due("rows of calls", face.size(), told.size());
        CHECK.holds("each call has its row: " + told, face.equals(new TreeSet<>(told)));
    }

    private static void eachRefusal(String text) {
        String[] names = {"UNKNOWN", "OUTSIDE", "NO", "STATE", "FULL"};
        int[] numbers = {FurnitureCure.UNKNOWN, FurnitureCure.OUTSIDE, FurnitureCure.NO, FurnitureCure.STATE,
            FurnitureCure.FULL};
        int at = 0;
        for (int i = 0; i < names.length; i++) {
            int row = text.indexOf("| `" + names[i] + "` (" + numbers[i] + ") |");
            CHECK.holds(names[i] + " has its row, in the order of the refusals", row > at);
            at = row;
        }
        CHECK.holds("NONE is told", text.contains("`NONE` (" + FurnitureCure.NONE + ")"));
        CHECK.holds("LOST is told", text.contains("" + (FurnitureCure.LOST + FurnitureCure.OUTSIDE)));
    }

    private static void eachTest(String text) throws IOException {
        try (var files = Files.newDirectoryStream(TESTS, "*Test.java")) {
            for (Path file : files) {
                String name = file.getFileName().toString().replace(".java", "");
                CHECK.holds("README tells of " + name, text.contains("`" + name + "`"));
            }
        }
    }
}
