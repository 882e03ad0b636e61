import java.lang.reflect.Method;
import java.nio.file.Files;
import java.nio.file.Path;
import java.util.regex.Matcher;
import java.util.regex.Pattern;

/** The run of calls in README.md: each answers the number that stands behind its "//". */
public final class ReadmeTest {
    private static final Pattern TEXT = Pattern.compile("String text = \"([^\"]*)\";");
    private static final Pattern CALL = Pattern.compile("x\\.(\\w+)\\(([^)]*)\\);\\s*// (-?\\d+)\\b.*");
    private static final String WRITE = "x.write(1, text.charAt(at));";
    private static int wrong = 0;

    private static void hold(boolean holds, String what) {
        if (!holds) {
            wrong++;
            System.out.println("not so: " + what);
        }
    }

    /** What stands in the only block of Java. */
    private static String[] block(String readme) {
        Matcher matcher = Pattern.compile("(?s)```java\n(.*?)```").matcher(readme);
        boolean found = matcher.find();
        String[] lines = found ? matcher.group(1).split("\n") : new String[0];
        hold(found && !matcher.find(), "README.md has one block of Java");
        return lines;
    }

    private static long answer(LastThree x, String name, String told) throws Exception {
        String[] numbers = told.isEmpty() ? new String[0] : told.split(", ");
        Object[] values = new Object[numbers.length];
        for (int i = 0; i < numbers.length; i++) values[i] = Integer.valueOf(numbers[i]);
        for (Method method : LastThree.class.getMethods()) {
            if (method.getName().equals(name)) return ((Number) method.invoke(x, values)).longValue();
        }
        throw new IllegalArgumentException("no call " + name);
    }

    public static void main(String[] args) throws Exception {
        LastThree x = new LastThree();
        String text = "";
        int calls = 0;
        for (String line : block(Files.readString(Path.of("README.md")))) {
            String row = line.trim();
            Matcher told = TEXT.matcher(row);
            Matcher call = CALL.matcher(row);
            if (told.matches()) {
                text = told.group(1);
            } else if (row.startsWith(WRITE)) {
                for (int at = 0; at < text.length(); at++) hold(x.write(1, text.charAt(at)) == at + 1, "write at " + at);
            } else if (call.matches()) {
                long got = answer(x, call.group(1), call.group(2));
                hold(got == Long.parseLong(call.group(3)), "README.md: " + row + " answers " + got);
                calls++;
            } else {
                hold(!row.startsWith("x."), "README.md tells no answer: " + row);
            }
        }
        hold(calls > 20, "README.md has a run of calls, found " + calls);
        System.out.println(calls + " calls of README.md, " + wrong + " not as told");
        if (wrong != 0) System.exit(1);
    }
}
