import java.lang.reflect.Method;
import java.nio.file.Files;
import java.nio.file.Path;
import java.util.Arrays;
import java.util.regex.Matcher;
import java.util.regex.Pattern;

/** The pieces of README.md that tell answers, played line by line: what it says of the class is so. */
public final class ReadmeTest extends HeapTest {
    private static final Pattern MADE = Pattern.compile("PotBonfire (\\w+) = new PotBonfire\\(\\);");
    private static final Pattern LAID = Pattern.compile("lay\\(\\w+, \"([^\"]*)\"\\);");
    private static final Pattern CALL =
        Pattern.compile("\\w+\\.(\\w+)\\(([^)]*)\\);\\s*// (-?\\d+|BAD|NO|FULL|NONE): .*");
    private static final int CALLS_AT_LEAST = 20;

    public static void main(String[] args) throws Exception {
        says("README.md");
        PotBonfire x = null;
        int played = 0;
        for (String line : Files.readAllLines(Path.of("README.md"))) {
            Matcher laid = LAID.matcher(line);
            Matcher call = CALL.matcher(line);
            if (MADE.matcher(line).matches()) {
                x = new PotBonfire();
            } else if (x != null && laid.matches()) {
                tell(x, laid.group(1));
                due("fault of the text that is laid", x.fault(), NONE);
                x.lay();
            } else if (x != null && call.matches()) {
                due(line, answer(x, call.group(1), call.group(2)), number(call.group(3)));
                played++;
            }
        }
        // A piece written in another way would be left out without a word.
        due("are there as many calls as there were", played >= CALLS_AT_LEAST ? 1 : 0, 1);
        end("README.md tells what is so");
    }

    private static int answer(PotBonfire x, String name, String list) throws Exception {
        String[] told = list.isEmpty() ? new String[0] : list.split(", ");
        Method method = Arrays.stream(PotBonfire.class.getDeclaredMethods())
            .filter(m -> m.getName().equals(name) && m.getParameterCount() == told.length)
            .findFirst().orElseThrow();
        Object[] numbers = new Object[told.length];
        for (int i = 0; i < told.length; i++) {
            Class<?> type = method.getParameterTypes()[i];
            if (type == boolean.class) numbers[i] = Boolean.valueOf(told[i]);
            else if (type == long.class) numbers[i] = Long.decode(told[i].replace("L", ""));
            else numbers[i] = Integer.decode(told[i]);
        }
        return (Integer) method.invoke(x, numbers);
    }

    private static int number(String told) {
        switch (told) {
            case "BAD": return BAD;
            case "NO": return NO;
            case "FULL": return FULL;
            case "NONE": return NONE;
            default: return Integer.parseInt(told);
        }
    }
}
