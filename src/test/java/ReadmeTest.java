import java.lang.reflect.Method;
import java.nio.file.Files;
import java.nio.file.Path;
import java.util.Arrays;
import java.util.Set;
import java.util.TreeSet;
import java.util.regex.Matcher;
import java.util.regex.Pattern;

/** The calls in README.md, made one after another on one object, answer what stands behind them. */
public final class ReadmeTest {
    private static final Pattern CALL = Pattern.compile("^desk\\.(\\w+)\\(([^)]*)\\); *// ([-\\w]+)");

    public static void main(String[] args) throws Exception {
        DeterminantDesk desk = new DeterminantDesk();
        Set<String> unused = new TreeSet<>();
        for (Method method : DeterminantDesk.class.getMethods()) {
            if (method.getDeclaringClass() == DeterminantDesk.class) {
                unused.add(method.getName());
            }
        }
        int wrong = 0;
        for (String line : Files.readAllLines(Path.of("README.md"))) {
            Matcher call = CALL.matcher(line);
            if (call.find()) {
                unused.remove(call.group(1));
                String got = answer(desk, call.group(1), call.group(2));
                if (!got.equals(call.group(3))) {
                    wrong++;
                    System.out.println(line + "\n    answered " + got);
                }
            } else if (line.startsWith("desk.")) {
                wrong++;
                System.out.println(line + "\n    says no answer");
            }
        }
        if (wrong != 0 || !unused.isEmpty()) {
            System.out.println(wrong + " lines are wrong; not shown are " + unused);
            System.exit(1);
        }
        System.out.println("all calls in README.md answer as it says");
    }

    private static String answer(DeterminantDesk desk, String name, String arguments) throws Exception {
        Object[] numbers = arguments.isEmpty() ? new Object[0]
                : Arrays.stream(arguments.split(", ")).map(Integer::valueOf).toArray();
        Class<?>[] types = new Class<?>[numbers.length];
        Arrays.fill(types, int.class);
        Object answer = DeterminantDesk.class.getMethod(name, types).invoke(desk, numbers);
        if (answer == null) {
            return "void";
        }
        return answer.equals(DeterminantDesk.BAD) ? "BAD" : answer.toString();
    }
}
