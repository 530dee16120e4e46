import java.io.IOException;
import java.lang.reflect.Method;
import java.lang.reflect.Modifier;
import java.nio.file.DirectoryStream;
import java.nio.file.Files;
import java.nio.file.Path;
import java.util.List;

/** What README.md says: the answers in its example, and that it tells of every call and every test. */
public final class ReadmeTest {
    private static final Check CHECK = new Check();
    private static List<String> lines;
    private static int next;

    public static void main(String[] args) throws IOException {
        lines = Files.readAllLines(Path.of("README.md"));
        exampleAnswersWhatItSays();
        everyCallIsTold();
        everyTestIsTold();
        CHECK.end("ReadmeTest");
    }

    private static void exampleAnswersWhatItSays() {
        next = lines.indexOf("AmendedDrawing d = new AmendedDrawing();") + 1;
        CHECK.holds("there is an example", next > 0);
        AmendedDrawing d = new AmendedDrawing();
        int box = d.commit(0, 0, 10, 10, 30 * 128 + 40);
        says("int box = d.commit(0, 0, 10, 10, 30 * 128 + 40);", box);
        int disc = d.commit(0, 1, 20, 20, 20 * 128 + 20);
        says("int disc = d.commit(0, 1, 20, 20, 20 * 128 + 20);", disc);
        int both = d.commit(6, box, disc, 0, 0);
        says("int both = d.commit(6, box, disc, 0, 0);", both);
        says("d.commit(2, both, 5, -5, 0);", d.commit(2, both, 5, -5, 0));
        says("d.objects();", d.objects());
        says("d.object(0, 2);", d.object(0, 2));
        says("d.needs(3, 0);", d.needs(3, 0));
        says("d.withdraw(disc);", d.withdraw(disc));
        says("d.effect(both);", d.effect(both));
        says("d.hit(12, 12);", d.hit(12, 12));
        says("d.amend(box, 1, 60);", d.amend(box, 1, 60));
        says("d.hit(12, 12);", d.hit(12, 12));
        says("d.undo();", d.undo());
        says("d.undo();", d.undo());
        says("d.redo();", d.redo());
        says("d.reinstate(disc);", d.reinstate(disc));
        CHECK.text("behind the example", line(), "```");
    }

    /** The example's next line is this call, with this answer in its comment. */
    private static void says(String call, int answer) {
        String line = line();
        String[] parts = line.split("//");
        CHECK.text("the example's call", parts[0].strip(), call);
        CHECK.holds(call + " answered " + answer + ", README.md says: " + line,
                parts.length == 2 && parts[1].strip().startsWith(answer + ":"));
        next++;
    }

    private static String line() {
        return next < lines.size() ? lines.get(next) : "";
    }

    private static void everyCallIsTold() {
        for (Method method : AmendedDrawing.class.getDeclaredMethods()) {
            if (Modifier.isPublic(method.getModifiers())) {
                CHECK.holds(method.getName() + " is told of", isTold("`" + method.getName() + "("));
            }
        }
    }

    private static void everyTestIsTold() throws IOException {
        try (DirectoryStream<Path> tests = Files.newDirectoryStream(Path.of("src/test/java"), "*.java")) {
            for (Path test : tests) {
                String name = test.getFileName().toString().replace(".java", "");
                CHECK.holds(name + " is told of", isTold("`" + name + "`"));
            }
        }
    }

    private static boolean isTold(String text) {
        return lines.stream().anyMatch(line -> line.contains(text));
    }
}
