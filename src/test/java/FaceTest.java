import java.io.IOException;
import java.lang.reflect.Constructor;
import java.lang.reflect.Field;
import java.lang.reflect.Method;
import java.lang.reflect.Modifier;
import java.nio.file.Files;
import java.nio.file.Path;
import java.util.Arrays;
import java.util.Set;
import java.util.TreeSet;
import java.util.regex.Matcher;
import java.util.regex.Pattern;

/** The public face, and what of LANGUAGE.md can be looked up. */
public final class FaceTest {
    private static final String[] METHODS = {
        "int loop(int)", "int body()", "int guard(int,int,int)", "int rule(int,int,int,int)", "int many(int)",
        "int set(int,int)", "long at(int)", "int run(int)", "int turn()", "int ring(int)", "int ahead()",
        "int ranks(int,int,int)", "int tells(int,int,int,int)", "long floor(int,int,int)", "int rank(int)",
        "int rows(int)", "int found(int,int)", "int by(int)", "long bound()", "int begin(int,int,int)",
        "int round(int)", "long box(int,int)", "int open()", "int call(int,int,int)", "int clear()",
        "int ending()", "int made()", "int witness(int)"
    };
    private static int wrong = 0;

    private static void check(String what, boolean holds) {
        if (!holds) {
            wrong++;
            System.out.println("not so: " + what);
        }
    }

    public static void main(String[] args) throws IOException {
        constants();
        face();
        inside();
        words();
        System.out.println(wrong == 0 ? "the face is as due" : wrong + " rules broken");
        if (wrong != 0) {
            System.exit(1);
        }
    }

    private static void constants() {
        check("NONE", EndingCourt.NONE == -1);
        check("FULL", EndingCourt.FULL == -2);
        check("OPEN", EndingCourt.OPEN == -3);
        check("OUT", EndingCourt.OUT == -4);
    }

    private static void face() {
        int kind = EndingCourt.class.getModifiers();
        check("public and final", Modifier.isPublic(kind) && Modifier.isFinal(kind));
        Set<String> got = new TreeSet<>();
        Set<String> names = new TreeSet<>();
        for (Method m : EndingCourt.class.getDeclaredMethods()) {
            if (!Modifier.isPrivate(m.getModifiers()) && !m.isSynthetic()) {
                check(m + " is public and not static",
                        Modifier.isPublic(m.getModifiers()) && !Modifier.isStatic(m.getModifiers()));
                got.add(shortName(m));
                names.add(m.getName());
            }
        }
        check("methods " + got, got.equals(new TreeSet<>(Arrays.asList(METHODS))));
        for (Method m : EndingCourt.class.getDeclaredMethods()) {
            check(m + " bears a public name", Modifier.isPublic(m.getModifiers()) || !names.contains(m.getName()));
        }
        Set<String> open = new TreeSet<>();
        for (Field f : EndingCourt.class.getDeclaredFields()) {
            if (!Modifier.isPrivate(f.getModifiers())) {
                open.add(f.getName());
            }
        }
        check("fields " + open, open.equals(new TreeSet<>(Arrays.asList("NONE", "FULL", "OPEN", "OUT"))));
        Constructor<?>[] makers = EndingCourt.class.getDeclaredConstructors();
        check("one constructor", makers.length == 1 && makers[0].getParameterCount() == 0
                && Modifier.isPublic(makers[0].getModifiers()));
    }

    private static String shortName(Method m) {
        StringBuilder text = new StringBuilder();
        for (Class<?> type : m.getParameterTypes()) {
            text.append(text.length() == 0 ? "" : ",").append(type.getSimpleName());
        }
        return m.getReturnType().getSimpleName() + " " + m.getName() + "(" + text + ")";
    }

    private static void inside() {
        Class<?>[] classes = EndingCourt.class.getDeclaredClasses();
        check("at most twelve classes", classes.length < 12);
        Set<String> names = new TreeSet<>();
        for (Method m : EndingCourt.class.getDeclaredMethods()) {
            if (Modifier.isPublic(m.getModifiers())) {
                names.add(m.getName());
            }
        }
        for (Class<?> c : classes) {
            check(c + " is static and not public",
                    Modifier.isStatic(c.getModifiers()) && !Modifier.isPublic(c.getModifiers()));
            for (Method m : c.getDeclaredMethods()) {
                check(m + " bears a public name", !names.contains(m.getName()));
                check(m + " takes more than seven", m.getParameterCount() <= 7);
            }
            for (Field f : c.getDeclaredFields()) {
                check(f + " is static, but not final",
                        !Modifier.isStatic(f.getModifiers()) || Modifier.isFinal(f.getModifiers()));
            }
        }
    }

    private static void words() throws IOException {
        Path file = Path.of(System.getProperty("project.root", "."), "src/main/java/EndingCourt.java");
        String text = Files.readString(file).replaceAll("(?s)/\\*.*?\\*/", "").replaceAll("//[^\n]*", "");
        String[] never = {"throw", "throws", "try", "catch", "synchronized", "assert", "protected", "package",
            "Random", "Thread", "System\\.(?!arraycopy)\\w+", "\\w+Exact", "->", "::", "Object", "null"};
        for (String word : never) {
            String edge = Character.isLetter(word.charAt(0)) ? "\\b" : "";
            Matcher m = Pattern.compile(edge + word + edge).matcher(text);
            check("no " + word + " in the class", !m.find());
        }
        Matcher imports = Pattern.compile("import ([^;]*);").matcher(text);
        while (imports.find()) {
            check("import " + imports.group(1), imports.group(1).equals("java.util.Arrays"));
        }
        check("only ASCII", Files.readString(file).chars().allMatch(c -> c < 128));
    }
}
