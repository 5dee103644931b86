import java.io.IOException;
import java.lang.reflect.Field;
import java.lang.reflect.Method;
import java.lang.reflect.Modifier;
import java.nio.file.Files;
import java.nio.file.Path;
import java.util.regex.Matcher;
import java.util.regex.Pattern;

/** README.md's calls answer what it says, and it tells of the whole face. It runs in the project's folder. */
public final class ReadmeTest {
    private static final Check CHECK = new Check("ReadmeTest");
    private static final Pattern ROW = Pattern.compile("x\\.(\\w+)\\((.*)\\); +// ([^ :]+): .*");

    private static int number(String told) {
        if (told.startsWith("'")) {
            return told.charAt(1);
        }
        return told.startsWith("0b") ? Integer.parseInt(told.substring(2), 2) : Integer.parseInt(told);
    }

    /** A number, or names of constants with + between. */
    private static long answer(String told) throws ReflectiveOperationException {
        if (told.matches("-?\\d+")) {
            return Long.parseLong(told);
        }
        long sum = 0;
        for (String name : told.split("\\+")) {
            sum += FairSeats.class.getField(name).getLong(null);
        }
        return sum;
    }

    private static long ask(FairSeats x, String name, String numbers) throws ReflectiveOperationException {
        String[] told = numbers.isEmpty() ? new String[0] : numbers.split(", ");
        Object[] given = new Object[told.length];
        Class<?>[] types = new Class<?>[told.length];
        for (int i = 0; i < told.length; i++) {
            given[i] = number(told[i]);
            types[i] = int.class;
        }
        return ((Number) FairSeats.class.getMethod(name, types).invoke(x, given)).longValue();
    }

    private static void shownCalls(String text) throws ReflectiveOperationException {
        FairSeats x = new FairSeats();
        int shown = 0;
        for (String line : text.split("\n")) {
            if (!line.startsWith("x.")) {
                continue;
            }
            Matcher row = ROW.matcher(line);
            CHECK.holds(line + " tells its answer", row.matches());
            if (row.matches()) {
                shown++;
                CHECK.due(line, ask(x, row.group(1), row.group(2)), answer(row.group(3)));
            }
        }
        CHECK.holds("calls are shown", shown > 20);
    }

    private static void wholeFace(String text) throws ReflectiveOperationException {
        String calls = text.substring(text.indexOf("## The calls"), text.indexOf("## Refusals"));
        String answers = text.substring(text.indexOf("## Refusals"), text.indexOf("## Tests"));
        for (Method m : FairSeats.class.getDeclaredMethods()) {
            if (Modifier.isPublic(m.getModifiers())) {
                int more = m.getParameterCount() - 1;
                String numbers = more < 0 ? "" : "\\w+(, \\w+){" + more + "}";
                String form = "`" + m.getName() + "\\(" + numbers + "\\)`";
                CHECK.holds(m.getName() + " is told", Pattern.compile(form).matcher(calls).find());
            }
        }
        for (Field f : FairSeats.class.getDeclaredFields()) {
            if (Modifier.isPublic(f.getModifiers())) {
                CHECK.holds(f.getName() + " is told", answers.contains("`" + f.getName()));
            }
        }
        for (String name : new String[] {"UNKNOWN", "OUTSIDE", "STATE", "FULL", "NO"}) {
            CHECK.holds(name + " with its number", answers.contains("| `" + name + "` | " + answer(name) + " |"));
        }
    }

    private static void everyTest(String text) throws IOException {
        try (var files = Files.list(Path.of("src/test/java"))) {
            for (Path file : files.toList()) {
                String name = file.getFileName().toString().replace(".java", "");
                CHECK.holds(name + " is told", !name.endsWith("Test") || text.contains(name));
            }
        }
        CHECK.holds("the command that runs them", text.contains("\n.ci/run\n"));
    }

    public static void main(String[] args) throws IOException, ReflectiveOperationException {
        String text = Files.readString(Path.of("README.md"));
        shownCalls(text);
        wholeFace(text);
        everyTest(text.substring(text.indexOf("## Tests")));
        CHECK.end();
    }
}
