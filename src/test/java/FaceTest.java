import java.io.IOException;
import java.lang.reflect.Constructor;
import java.lang.reflect.Field;
import java.lang.reflect.Method;
import java.lang.reflect.Modifier;
import java.nio.file.Files;
import java.nio.file.Path;
import java.util.ArrayList;
import java.util.Arrays;
import java.util.List;
import java.util.Map;
import java.util.Set;
import java.util.TreeMap;
import java.util.TreeSet;
import java.util.regex.Matcher;
import java.util.regex.Pattern;

/** The public face, and what of LANGUAGE.md can be looked up. */
public final class FaceTest {
    private static final String[] METHODS = {
        "int loop(int)", "int body()", "int guard(int,int,int)", "int rule(int,int,int,int)", "int many(int)",
        "int set(int,int)", "long at(int)", "int run(int)", "int turn()", "int ring(int)", "int ahead()",
        "int ranks(int,int,int)", "int tells(int,int,int,int)", "long floor(int,int,int)", "int rank(int)",
        "int rows(int)", "int found(int,int)", "int by(int)", "long bound()", "int begin(int,int,int)",
        "int round(int)", "long box(int,int)", "int open()", "int call(int,int,int)", "int clear()",
        "int ending()", "int made()", "int witness(int)"
    };
    private static int wrong = 0;

    private static void check(String what, boolean holds) {
        if (!holds) {
            wrong++;
            System.out.println("not so: " + what);
        }
    }

    public static void main(String[] args) throws IOException {
        constants();
        face();
        inside();
        sizes();
        words();
        System.out.println(wrong == 0 ? "the face is as due" : wrong + " rules broken");
        if (wrong != 0) {
            System.exit(1);
        }
    }

    private static void constants() {
        check("NONE", EndingCourt.NONE == -1);
        check("FULL", EndingCourt.FULL == -2);
        check("OPEN", EndingCourt.OPEN == -3);
        check("OUT", EndingCourt.OUT == -4);
    }

    private static void face() {
        int kind = EndingCourt.class.getModifiers();
        check("public and final", Modifier.isPublic(kind) && Modifier.isFinal(kind));
        Set<String> got = new TreeSet<>();
        Set<String> names = new TreeSet<>();
        for (Method m : EndingCourt.class.getDeclaredMethods()) {
            if (!Modifier.isPrivate(m.getModifiers()) && !m.isSynthetic()) {
                check(m + " is public and not static",
                        Modifier.isPublic(m.getModifiers()) && !Modifier.isStatic(m.getModifiers()));
                got.add(shortName(m));
                names.add(m.getName());
            }
        }
        check("methods " + got, got.equals(new TreeSet<>(Arrays.asList(METHODS))));
        for (Method m : EndingCourt.class.getDeclaredMethods()) {
            check(m + " bears a public name", Modifier.isPublic(m.getModifiers()) || !names.contains(m.getName()));
        }
        Set<String> open = new TreeSet<>();
        for (Field f : EndingCourt.class.getDeclaredFields()) {
            if (!Modifier.isPrivate(f.getModifiers())) {
                open.add(f.getName());
            }
        }
        check("fields " + open, open.equals(new TreeSet<>(Arrays.asList("NONE", "FULL", "OPEN", "OUT"))));
        Constructor<?>[] makers = EndingCourt.class.getDeclaredConstructors();
        check("one constructor", makers.length == 1 && makers[0].getParameterCount() == 0
                && Modifier.isPublic(makers[0].getModifiers()));
    }

    private static String shortName(Method m) {
        StringBuilder text = new StringBuilder();
        for (Class<?> type : m.getParameterTypes()) {
            text.append(text.length() == 0 ? "" : ",").append(type.getSimpleName());
        }
        return m.getReturnType().getSimpleName() + " " + m.getName() + "(" + text + ")";
    }

    private static void inside() {
        Class<?>[] classes = EndingCourt.class.getDeclaredClasses();
        check("at most twelve classes", classes.length < 12);
        Set<String> names = new TreeSet<>();
        for (Method m : EndingCourt.class.getDeclaredMethods()) {
            if (Modifier.isPublic(m.getModifiers())) {
                names.add(m.getName());
            }
        }
        for (Class<?> c : classes) {
            check(c + " is static and not public",
                    Modifier.isStatic(c.getModifiers()) && !Modifier.isPublic(c.getModifiers()));
            for (Method m : c.getDeclaredMethods()) {
                check(m + " bears a public name", !names.contains(m.getName()));
                check(m + " takes more than seven", m.getParameterCount() <= 7);
            }
            for (Field f : c.getDeclaredFields()) {
                check(f + " is static, but not final",
                        !Modifier.isStatic(f.getModifiers()) || Modifier.isFinal(f.getModifiers()));
            }
        }
    }

    private static Path file() {
        return Path.of(System.getProperty("project.root", "."), "src/main/java/EndingCourt.java");
    }

    private static String withoutComments() throws IOException {
        return Files.readString(file()).replaceAll("(?s)/\\*.*?\\*/", "").replaceAll("//[^\n]*", "");
    }

    private static void sizes() throws IOException {
        List<Class<?>> classes = new ArrayList<>(Arrays.asList(EndingCourt.class.getDeclaredClasses()));
        classes.add(EndingCourt.class);
        for (Class<?> c : classes) {
            long fields = Arrays.stream(c.getDeclaredFields()).filter(f -> !Modifier.isStatic(f.getModifiers())).count();
            check(c + " has at most twenty fields", fields <= 20);
        }
        Map<String, String> methods = methods(withoutComments());
        check("methods are found: " + methods.size(), methods.size() > 100);
        Map<String, Set<String>> callees = new TreeMap<>();
        for (Map.Entry<String, String> method : methods.entrySet()) {
            check(method.getKey() + " is short", method.getValue().lines().count() <= 60);
            callees.put(method.getKey(), calledIn(method.getKey(), method.getValue(), methods.keySet()));
        }
        for (String name : methods.keySet()) {
            int depth = depth(name, callees, 0);
            check(name + " goes " + depth + " deep", depth <= 8);
        }
    }

    /** Class and name, and the lines between the braces. */
    private static Map<String, String> methods(String text) {
        Map<String, String> answer = new TreeMap<>();
        String[] lines = text.split("\n");
        Pattern kind = Pattern.compile("^ *[\\w ]*class (\\w+) \\{$");
        Pattern head = Pattern.compile("^( {4}| {8})(?:[\\w\\[\\]]+ )+(\\w+)\\([^)]*\\) \\{$");
        String inside = "";
        for (int at = 0; at < lines.length; at++) {
            Matcher its = kind.matcher(lines[at]);
            Matcher m = head.matcher(lines[at]);
            inside = its.matches() ? its.group(1) : inside;
            if (m.matches()) {
                StringBuilder body = new StringBuilder();
                for (int end = at + 1; end < lines.length && !lines[end].equals(m.group(1) + "}"); end++) {
                    body.append(lines[end]).append('\n');
                }
                answer.put(inside + "." + m.group(2), body.toString());
            }
        }
        return answer;
    }

    /** A name behind a dot is taken as that of any other class's method, another one as of this class or the outer one. */
    private static Set<String> calledIn(String method, String body, Set<String> all) {
        Set<String> answer = new TreeSet<>();
        String own = method.substring(0, method.indexOf('.'));
        Matcher m = Pattern.compile("(?<!Math|Arrays|System)(\\.?)\\b(\\w+)\\(").matcher(body);
        while (m.find()) {
            for (String other : all) {
                String its = other.substring(0, other.indexOf('.'));
                boolean near = its.equals(own) || its.equals("EndingCourt");
                if (other.equals(its + "." + m.group(2)) && (m.group(1).isEmpty() ? near : !other.equals(method))) {
                    answer.add(other);
                }
            }
        }
        return answer;
    }

    private static int depth(String name, Map<String, Set<String>> callees, int open) {
        int most = 0;
        for (String other : callees.get(name)) {
            if (open > 20) {
                return 1;
            }
            most = Math.max(most, depth(other, callees, open + 1));
        }
        return 1 + most;
    }

    private static void words() throws IOException {
        Path file = file();
        String text = withoutComments();
        String[] never = {"throw", "throws", "try", "catch", "synchronized", "assert", "protected", "package",
            "Random", "Thread", "System\\.(?!arraycopy)\\w+", "\\w+Exact", "->", "::", "Object", "null"};
        for (String word : never) {
            String edge = Character.isLetter(word.charAt(0)) ? "\\b" : "";
            Matcher m = Pattern.compile(edge + word + edge).matcher(text);
            check("no " + word + " in the class", !m.find());
        }
        Matcher imports = Pattern.compile("import ([^;]*);").matcher(text);
        while (imports.find()) {
            check("import " + imports.group(1), imports.group(1).equals("java.util.Arrays"));
        }
        check("only ASCII", Files.readString(file).chars().allMatch(c -> c < 128));
    }
}
