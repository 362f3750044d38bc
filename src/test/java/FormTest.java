import java.io.IOException;
import java.lang.reflect.Constructor;
import java.lang.reflect.Field;
import java.lang.reflect.Method;
import java.lang.reflect.Modifier;
import java.nio.file.Files;
import java.nio.file.Paths;
import java.util.Arrays;
import java.util.List;
import java.util.Set;
import java.util.TreeSet;
import java.util.regex.Matcher;
import java.util.regex.Pattern;

/** The rules of LANGUAGE.md as far as they can be read from the source and the classes. Its argument: the source. */
public final class FormTest {
    private static final Checks CHECKS = new Checks("FormTest");

    private static final String[] FACE = {"long digest()", "long givings()", "long part(int)", "long placeOf(int)",
        "long standing()", "int asker()", "int place(int)", "int seats(int,int)", "int wish(int,int,int)",
        "int worth(int,int)", "int givingAt(long,int)", "int give(int,int,int)", "int become(int,int)",
        "int has(int,int)", "int many(int,int)", "int votes(int,int)", "int margin(int)", "int beater(int,int)",
        "int factor(int)", "int better(int)", "int standingAt(long,int)", "int standingMany(int)",
        "int turn(int,int)", "int round(int,int)", "int leaving(int,int,int)", "int chance(int,int)",
        "int share(int,int)", "int envies(int,int)", "int count(int)"};

    private static final String[] BANNED = {"throw", "throws", "try", "catch", "finally", "synchronized", "assert",
        "import", "package", "protected", "volatile", "transient", "native", "strictfp", "instanceof", "Object",
        "Exception", "System\\.out", "System\\.currentTimeMillis", "System\\.nanoTime", "Random", "Thread",
        "String\\.format", "HashMap", "->", "::", "equals", "hashCode", "toString", "Exact"};

    private FormTest() {
    }

    public static void main(String[] args) throws IOException {
        String source = Files.readString(Paths.get(args[0]));
        CHECKS.holds("the source has signs 1 to 127 or stands in comments", isPlain(withoutComments(source)));
        words(withoutComments(source));
        face();
        names();
        sizes();
        methods(source);
        CHECKS.end();
    }

    private static String withoutComments(String source) {
        return source.replaceAll("(?s)/\\*.*?\\*/", "").replaceAll("//[^\n]*", "");
    }

    private static boolean isPlain(String text) {
        return text.chars().allMatch(c -> c >= 1 && c <= 127);
    }

    private static void words(String code) {
        for (String word : BANNED) {
            boolean isWord = Character.isLetter(word.charAt(0));
            Matcher found = Pattern.compile(isWord ? "\\b" + word + "\\b" : word).matcher(code);
            CHECKS.holds("no " + word + " in the source", !found.find());
        }
        Matcher inner = Pattern.compile("(?m)^ +.*\\bclass\\b").matcher(code);
        while (inner.find()) {
            CHECKS.holds("static: " + inner.group(), inner.group().contains("static final class"));
        }
        CHECKS.holds("no endless loop", !Pattern.compile("while \\(true\\)|for \\(;;\\)").matcher(code).find());
    }

    private static void face() {
        Set<String> want = new TreeSet<>(Arrays.asList(FACE));
        Set<String> have = new TreeSet<>();
        for (Method m : WishPlaces.class.getDeclaredMethods()) {
            if (m.isSynthetic()) {
                continue;
            }
            if (Modifier.isPublic(m.getModifiers())) {
                StringBuilder text = new StringBuilder(m.getReturnType() + " " + m.getName() + "(");
                for (Class<?> c : m.getParameterTypes()) {
                    text.append(text.charAt(text.length() - 1) == '(' ? "" : ",").append(c);
                }
                have.add(text.append(")").toString());
            } else {
                CHECKS.holds(m.getName() + " is private", Modifier.isPrivate(m.getModifiers()));
            }
        }
        CHECKS.holds("the methods are " + want + ", not " + have, want.equals(have));
        Constructor<?>[] made = WishPlaces.class.getDeclaredConstructors();
        CHECKS.holds("one public constructor", made.length == 1 && Modifier.isPublic(made[0].getModifiers())
                && made[0].getParameterCount() == 0);
        List<String> constants = List.of("NONE", "BAD", "NO", "FULL");
        for (Field f : WishPlaces.class.getDeclaredFields()) {
            int kind = f.getModifiers();
            boolean isFace = constants.contains(f.getName());
            CHECKS.holds(f.getName() + " is of the face or private",
                    isFace ? Modifier.isPublic(kind) : Modifier.isPrivate(kind));
        }
        CHECKS.holds("public and final", Modifier.isPublic(WishPlaces.class.getModifiers())
                && Modifier.isFinal(WishPlaces.class.getModifiers()));
    }

    private static void names() {
        Set<String> open = new TreeSet<>();
        for (String f : FACE) {
            open.add(f.substring(f.indexOf(' ') + 1, f.indexOf('(')));
        }
        for (Method m : WishPlaces.class.getDeclaredMethods()) {
            CHECKS.holds(m.getName() + " bears no public name",
                    Modifier.isPublic(m.getModifiers()) || !open.contains(m.getName()));
        }
        for (Class<?> c : WishPlaces.class.getDeclaredClasses()) {
            for (Method m : c.getDeclaredMethods()) {
                CHECKS.holds(c.getName() + "." + m.getName() + " bears no public name", !open.contains(m.getName()));
                CHECKS.holds(m.getName() + " has at most seven parameters", m.getParameterCount() <= 7);
            }
        }
    }

    private static void sizes() {
        Class<?>[] inside = WishPlaces.class.getDeclaredClasses();
        CHECKS.holds("at most twelve classes", inside.length <= 11);
        fields(WishPlaces.class);
        for (Class<?> c : inside) {
            CHECKS.holds(c.getName() + " is static", Modifier.isStatic(c.getModifiers()));
            fields(c);
        }
    }

    private static void fields(Class<?> c) {
        int many = 0;
        for (Field f : c.getDeclaredFields()) {
            boolean isStatic = Modifier.isStatic(f.getModifiers());
            CHECKS.holds(f.getName() + " is no static state", !isStatic || Modifier.isFinal(f.getModifiers()));
            many += isStatic ? 0 : 1;
        }
        CHECKS.holds(c.getName() + " has at most twenty fields", many <= 20);
    }

    private static void methods(String source) {
        int start = 0;
        String[] lines = source.split("\n");
        for (int i = 0; i < lines.length; i++) {
            CHECKS.holds("line " + (i + 1) + " is at most 120 long", lines[i].length() <= 120);
            if (lines[i].matches(" {4,8}[a-zA-Z].*\\) \\{")) {
                start = i;
            }
            if (lines[i].matches(" {4,8}\\}")) {
                CHECKS.holds("the method to line " + (i + 1) + " is short", i - start <= 60 || lines[i].length() == 5);
            }
        }
    }
}
