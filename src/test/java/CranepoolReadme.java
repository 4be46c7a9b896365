import java.io.IOException;
import java.lang.reflect.Method;
import java.lang.reflect.Modifier;
import java.nio.file.Files;
import java.nio.file.Path;
import java.util.List;
import java.util.stream.Collectors;
import java.util.stream.Stream;

/** README.md's example stands here line by line, so that it compiles and what it tells of the answers is checked. */
public final class CranepoolReadme extends Checks {
    private static final Path README = Path.of("README.md");
    private static final Path TESTS = Path.of("src/test/java");
    private static final String FIRST = "// README: its example begins";
    private static final String LAST = "// README: its example ends";

    public static void main(String[] args) throws IOException {
        part = "README.md";
        example();
        String readme = Files.readString(README);
        List<String> own = Files.readAllLines(TESTS.resolve("CranepoolReadme.java"));
        due("its example", between(own, FIRST, LAST), () -> between(readme.lines().toList(), "```java", "```"));
        eachCallIsNamed(readme);
        eachTestIsNamed(readme);
        finish();
    }

    private static void example() {
        // README: its example begins
        Cranepool site = new Cranepool();
        int crane = site.addCrane(10, 10, 15, 50, 400);    // column, row, radius, greatest weight, moment
        site.permit(crane, 7, 10);                         // ten hours from 7 on
        int lift = site.addLift(5, 5, 14, 12, 30, 45);     // from, to, weight, minutes
        char why = site.reason(lift, crane, 400);          // 'h': no permit in the minute 400
        int start = site.plan(lift, crane);                // 420
        int pour = site.addPour(15, 8, 16, 15, 25, 10, 5, 0);    // from, to, weight, minutes, lifts, longest wait
        int first = site.planPour(pour, crane);            // 465: five lifts, one straight behind the other
        site.pass(240);                                    // at most 240 minutes a call
        int done = site.pass(240);                         // 2: minute 480, the lift and the first one of the pour
        // README: its example ends
        due("reason", 'h', () -> why);
        due("start", 420, () -> start);
        due("start of the pour", 465, () -> first);
        due("its last start", 505, () -> site.startOf(site.firstOf(pour) + 4));
        due("lifts done", 2, () -> done);
        due("present minute", 480, site::now);
        due("the lift is one of them", 'd', () -> site.stateOf(lift));
        due("the first one of the pour is the other", 'd', () -> site.stateOf(site.firstOf(pour)));
    }

    private static List<String> between(List<String> lines, String before, String behind) {
        return lines.stream().map(String::trim).dropWhile(line -> !line.equals(before)).skip(1)
            .takeWhile(line -> !line.equals(behind)).collect(Collectors.toList());
    }

    private static void eachCallIsNamed(String readme) {
        for (Method method : Cranepool.class.getDeclaredMethods()) {
            if (Modifier.isPublic(method.getModifiers())) {
                due("the call " + method.getName(), true, () -> readme.contains("`" + method.getName() + "`"));
            }
        }
    }

    private static void eachTestIsNamed(String readme) throws IOException {
        try (Stream<Path> tests = Files.list(TESTS)) {
            for (Path test : tests.toList()) {
                String name = test.getFileName().toString().replace(".java", "");
                due("the test " + name, true, () -> readme.contains("- `" + name + "` "));
            }
        }
    }
}
