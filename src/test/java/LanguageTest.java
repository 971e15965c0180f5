import java.lang.reflect.Constructor;
import java.lang.reflect.Field;
import java.lang.reflect.Method;
import java.lang.reflect.Modifier;
import java.nio.file.Files;
import java.nio.file.Path;
import java.util.ArrayList;
import java.util.Arrays;
import java.util.List;
import java.util.Set;
import java.util.TreeSet;
import java.util.regex.Matcher;
import java.util.regex.Pattern;

// Those rules of LANGUAGE.md that can be seen in the compiled class or in single words of the source.
public final class LanguageTest {
    private static final Set<String> FACE = Set.of(
            "points()", "join(int,int,int)", "weave(int,int)", "invert()", "weigh(int,int)",
            "joinedTo(int)", "isClique(int)", "fullCliques()", "full(int)", "cliques(int)",
            "heaviest()", "best()", "bestWith(int)", "size()", "colours()", "colourings(int)",
            "alike(int,int,int)");
    private static final Set<Class<?>> TYPES = Set.of(
            void.class, int.class, long.class, short.class, byte.class, char.class, boolean.class,
            int[].class, long[].class, short[].class, byte[].class, char[].class, boolean[].class);
    private static final Pattern FORBIDDEN = Pattern.compile(
            "\\b(import|package|float|double|null|throw|throws|try|catch|finally|synchronized|assert"
            + "|instanceof|enum|interface|record|var|volatile|String|Math|Integer|Long|System|Arrays"
            + "|Object|Thread|getClass|hashCode|equals|toString)\\b|->|::|\"");
    private static final int SOME_SIXTY_LINES = 60;
    private static final int SOME_FORTY_FIELDS = 40;

    private static int wrong = 0;

    private static void check(boolean holds, String what) {
        if (!holds) {
            wrong++;
            System.out.println(what);
        }
    }

    private static String signature(Method method) {
        List<String> types = new ArrayList<>();
        for (Class<?> type : method.getParameterTypes()) {
            types.add(type.getName());
        }
        return method.getName() + "(" + String.join(",", types) + ")";
    }

    private static void checkClass() {
        Class<?> c = CliqueLister.class;
        check(Modifier.isPublic(c.getModifiers()) && Modifier.isFinal(c.getModifiers()), "rule 1: public and final");
        check(c.getDeclaredClasses().length == 0, "rule 1: no nested class");
        Constructor<?>[] made = c.getDeclaredConstructors();
        check(made.length == 1 && Modifier.isPublic(made[0].getModifiers())
                && Arrays.equals(made[0].getParameterTypes(), new Class<?>[] {int.class}), "the constructor of the face");
    }

    private static void checkMethods() {
        Set<String> found = new TreeSet<>();
        Set<String> publicNames = new TreeSet<>();
        for (Method method : CliqueLister.class.getDeclaredMethods()) {
            if (Modifier.isPublic(method.getModifiers())) {
                found.add(signature(method));
                publicNames.add(method.getName());
                check(method.getReturnType() == int.class, method + " answers an int in the face");
                check(!Modifier.isStatic(method.getModifiers()), method + " is not static in the face");
            }
        }
        check(found.equals(new TreeSet<>(FACE)), "the face is " + found);
        for (Method method : CliqueLister.class.getDeclaredMethods()) {
            if (!Modifier.isPublic(method.getModifiers())) {
                check(Modifier.isPrivate(method.getModifiers()), "rule 1: " + method + " is not private");
                check(!publicNames.contains(method.getName()), "rule 1: " + method + " bears a public name");
            }
            check(!method.getReturnType().isArray(), "rule 4: " + method + " answers an array");
            check(TYPES.contains(method.getReturnType()), "rule 2: " + method);
            check(TYPES.containsAll(Arrays.asList(method.getParameterTypes())), "rule 2: " + method);
            check(method.getParameterCount() <= 7, "rule 10: " + method);
        }
    }

    private static void checkFields() {
        int fields = 0;
        for (Field field : CliqueLister.class.getDeclaredFields()) {
            check(Modifier.isPrivate(field.getModifiers()), "rule 1: " + field);
            check(TYPES.contains(field.getType()), "rule 2: " + field);
            if (Modifier.isStatic(field.getModifiers())) {
                boolean number = field.getType() == int.class || field.getType() == long.class;
                check(number && Modifier.isFinal(field.getModifiers()), "rule 5: " + field);
            } else {
                fields++;
            }
        }
        check(fields <= SOME_FORTY_FIELDS, "rule 10: " + fields + " fields");
    }

    private static void checkSource(String source) {
        String code = source.replaceAll("(?s)/\\*.*?\\*/", "").replaceAll("//[^\n]*", "");
        Matcher word = FORBIDDEN.matcher(code);
        while (word.find()) {
            check(false, "rules 2, 3 and 6: the source has " + word.group());
        }
        Matcher array = Pattern.compile("(?m)^(.*)\\bnew\\b").matcher(code);
        while (array.find()) {
            check(array.group(1).matches("    private final \\w+\\[\\] \\w+ = "), "rule 4: new in " + array.group(1));
        }
    }

    private static void checkLengths(String source) {
        int start = 0;
        List<String> lines = source.lines().toList();
        for (int i = 0; i < lines.size(); i++) {
            if (lines.get(i).matches("    \\S.*\\{")) {
                start = i;
            }
            if (lines.get(i).equals("    }")) {
                check(i - start < SOME_SIXTY_LINES, "rule 10: too long: " + lines.get(start));
            }
        }
    }

    public static void main(String[] args) throws Exception {
        String source = Files.readString(Path.of("src/main/java/CliqueLister.java"));
        checkClass();
        checkMethods();
        checkFields();
        checkSource(source);
        checkLengths(source);
        if (wrong != 0) {
            System.exit(1);
        }
    }
}
