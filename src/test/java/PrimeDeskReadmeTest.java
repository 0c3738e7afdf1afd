import java.lang.reflect.Method;
import java.lang.reflect.Modifier;
import java.nio.file.Files;
import java.nio.file.Path;
import java.util.Arrays;
import java.util.HashSet;
import java.util.List;
import java.util.Set;
import java.util.regex.Matcher;
import java.util.regex.Pattern;

/** Makes the calls of README.md's worked answers, and looks whether README.md tells of each public method. */
public final class PrimeDeskReadmeTest {
    private static final Path README = Path.of("README.md");
    private static final Pattern WORKED = Pattern.compile("desk\\.(\\w+)\\(([-\\d, ]*)\\);\\s*// (\\w+|-\\d+)(:.*)?");

    private static int wrong = 0;

    public static void main(String[] args) throws Exception {
        if (!Files.isRegularFile(README)) {
            System.out.println("no " + README + " here: start this test from the project's directory");
            System.exit(1);
        }
        List<String> lines = Files.readAllLines(README);
        Set<String> called = workedAnswers(lines);
        for (Method method : PrimeDesk.class.getDeclaredMethods()) {
            if (Modifier.isPublic(method.getModifiers())) {
                String name = method.getName();
                holds("a worked answer of " + name, called.contains(name));
                holds("a row for " + name, lines.stream().anyMatch(line -> line.startsWith("| `" + name + "(")));
            }
        }
        System.out.println(wrong == 0 ? "README.md is as due" : wrong + " things of README.md are not as due");
        if (wrong != 0) {
            System.exit(1);
        }
    }

    private static void holds(String what, boolean is) {
        if (!is) {
            wrong++;
            System.out.println("does not hold: " + what);
        }
    }

    /** Makes the calls one after the other on one object, as the reader would. */
    private static Set<String> workedAnswers(List<String> lines) throws Exception {
        Set<String> called = new HashSet<>();
        PrimeDesk desk = new PrimeDesk();
        for (String line : lines) {
            if (!line.startsWith("desk.")) {
                continue;
            }
            Matcher worked = WORKED.matcher(line);
            if (!worked.matches()) {
                holds("a call with its answer: " + line, false);
                continue;
            }
            String got = answer(desk, worked.group(1), worked.group(2));
            holds(line + " (answered " + got + ")", got.equals(value(worked.group(3))));
            called.add(worked.group(1));
        }
        return called;
    }

    private static String answer(PrimeDesk desk, String name, String arguments) throws Exception {
        Object[] values = arguments.isEmpty()
            ? new Object[0]
            : Arrays.stream(arguments.split(", ")).map(Integer::valueOf).toArray();
        Class<?>[] types = new Class<?>[values.length];
        Arrays.fill(types, int.class);
        return PrimeDesk.class.getMethod(name, types).invoke(desk, values).toString();
    }

    private static String value(String written) {
        return switch (written) {
            case "BAD" -> "-1";
            case "NONE" -> "-2";
            default -> written;
        };
    }
}
