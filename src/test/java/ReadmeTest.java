import java.lang.reflect.Method;
import java.lang.reflect.Modifier;
import java.nio.file.Files;
import java.nio.file.Path;
import java.util.Arrays;
import java.util.List;
import java.util.Set;
import java.util.TreeSet;
import java.util.regex.Matcher;
import java.util.regex.Pattern;

/**
 * The calls that stand in README.md as "court.name(..);  // answer" answer so;
 * and each method of the face stands there.
 */
public final class ReadmeTest {
    private static final Pattern CALL = Pattern.compile("court\\.(\\w+)\\(([^)]*)\\); *// ([A-Z]+|-?\\d+)(?::.*)?");
    private static final List<String> CODES = List.of("OUT", "OPEN", "FULL", "NONE");

    public static void main(String[] args) throws Exception {
        Path file = Path.of(System.getProperty("project.root", "."), "README.md");
        Set<String> missing = new TreeSet<>();
        for (Method m : EndingCourt.class.getDeclaredMethods()) {
            if (Modifier.isPublic(m.getModifiers())) {
                missing.add(m.getName());
            }
        }
        EndingCourt court = new EndingCourt();
        int looked = 0;
        int wrong = 0;
        for (String line : Files.readAllLines(file)) {
            court = line.startsWith("EndingCourt court") ? new EndingCourt() : court;
            if (line.startsWith("court.")) {
                Matcher m = CALL.matcher(line);
                long got = m.matches() ? answer(court, m.group(1), m.group(2)) : 0;
                looked++;
                if (!m.matches() || got != due(m.group(3))) {
                    wrong++;
                    System.out.println(line + " -- answered " + got);
                }
                missing.remove(m.matches() ? m.group(1) : "");
            }
        }
        if (looked == 0 || !missing.isEmpty()) {
            wrong++;
            System.out.println("not in README.md: " + missing);
        }
        System.out.println(looked + " calls in README.md, " + wrong + " not as due");
        if (wrong != 0) {
            System.exit(1);
        }
    }

    private static long due(String told) {
        return CODES.contains(told) ? CODES.indexOf(told) - 4 : Long.parseLong(told);
    }

    private static long answer(EndingCourt court, String name, String given) throws Exception {
        Object[] args = given.isEmpty() ? new Object[0]
                : Arrays.stream(given.split(", ")).map(Integer::valueOf).toArray();
        Class<?>[] kinds = new Class<?>[args.length];
        Arrays.fill(kinds, int.class);
        return ((Number) EndingCourt.class.getMethod(name, kinds).invoke(court, args)).longValue();
    }
}
