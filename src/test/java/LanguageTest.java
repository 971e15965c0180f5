import java.lang.reflect.Constructor;
import java.lang.reflect.Field;
import java.lang.reflect.Method;
import java.lang.reflect.Modifier;
import java.nio.file.Files;
import java.nio.file.Path;
import java.util.ArrayDeque;
import java.util.ArrayList;
import java.util.Arrays;
import java.util.Deque;
import java.util.List;
import java.util.Map;
import java.util.Set;
import java.util.TreeMap;
import java.util.TreeSet;
import java.util.regex.Matcher;
import java.util.regex.Pattern;

// Those rules of LANGUAGE.md that can be seen in the compiled class or in the words and calls of the source.
public final class LanguageTest {
    private static final Set<String> FACE = Set.of(
            "points()", "join(int,int,int)", "weave(int,int)", "invert()", "weigh(int,int)",
            "joinedTo(int)", "isClique(int)", "fullCliques()", "full(int)", "cliques(int)",
            "heaviest()", "best()", "bestWith(int)", "size()", "colours()", "colourings(int)",
            "alike(int,int,int)");
    private static final Set<Class<?>> TYPES = Set.of(
            void.class, int.class, long.class, short.class, byte.class, char.class, boolean.class,
            int[].class, long[].class, short[].class, byte[].class, char[].class, boolean[].class);
    private static final Pattern FORBIDDEN = Pattern.compile(
            "\\b(import|package|float|double|null|throw|throws|try|catch|finally|synchronized|assert"
            + "|instanceof|enum|interface|record|var|volatile|String|Math|Integer|Long|System|Arrays"
            + "|Object|Thread|getClass|hashCode|equals|toString)\\b|->|::|\"");
    private static final int SOME_SIXTY_LINES = 60;
    private static final int SOME_FORTY_FIELDS = 40;
    private static final int DEEPEST_CALLS = 6;

    private static int wrong = 0;

    private static void check(boolean holds, String what) {
        if (!holds) {
            wrong++;
            System.out.println(what);
        }
    }

    private static String signature(Method method) {
        List<String> types = new ArrayList<>();
        for (Class<?> type : method.getParameterTypes()) {
            types.add(type.getName());
        }
        return method.getName() + "(" + String.join(",", types) + ")";
    }

    private static void checkClass() {
        Class<?> c = CliqueLister.class;
        check(Modifier.isPublic(c.getModifiers()) && Modifier.isFinal(c.getModifiers()), "rule 1: public and final");
        check(c.getDeclaredClasses().length == 0, "rule 1: no nested class");
        Constructor<?>[] made = c.getDeclaredConstructors();
        check(made.length == 1 && Modifier.isPublic(made[0].getModifiers())
                && Arrays.equals(made[0].getParameterTypes(), new Class<?>[] {int.class}), "the constructor of the face");
    }

    private static void checkMethods() {
        Set<String> found = new TreeSet<>();
        Set<String> publicNames = new TreeSet<>();
        for (Method method : CliqueLister.class.getDeclaredMethods()) {
            if (Modifier.isPublic(method.getModifiers())) {
                found.add(signature(method));
                publicNames.add(method.getName());
                check(method.getReturnType() == int.class, method + " answers an int in the face");
                check(!Modifier.isStatic(method.getModifiers()), method + " is not static in the face");
            }
        }
        check(found.equals(new TreeSet<>(FACE)), "the face is " + found);
        for (Method method : CliqueLister.class.getDeclaredMethods()) {
            if (!Modifier.isPublic(method.getModifiers())) {
                check(Modifier.isPrivate(method.getModifiers()), "rule 1: " + method + " is not private");
                check(!publicNames.contains(method.getName()), "rule 1: " + method + " bears a public name");
            }
            check(!method.getReturnType().isArray(), "rule 4: " + method + " answers an array");
            check(TYPES.contains(method.getReturnType()), "rule 2: " + method);
            check(TYPES.containsAll(Arrays.asList(method.getParameterTypes())), "rule 2: " + method);
            check(method.getParameterCount() <= 7, "rule 10: " + method);
        }
    }

    private static void checkFields() {
        int fields = 0;
        for (Field field : CliqueLister.class.getDeclaredFields()) {
            check(Modifier.isPrivate(field.getModifiers()), "rule 1: " + field);
            check(TYPES.contains(field.getType()), "rule 2: " + field);
            if (Modifier.isStatic(field.getModifiers())) {
                boolean number = field.getType() == int.class || field.getType() == long.class;
                check(number && Modifier.isFinal(field.getModifiers()), "rule 5: " + field);
            } else {
                fields++;
            }
        }
        check(fields <= SOME_FORTY_FIELDS, "rule 10: " + fields + " fields");
    }

    private static void checkSource(String source) {
        String code = withoutComments(source);
        Matcher word = FORBIDDEN.matcher(code);
        while (word.find()) {
            check(false, "rules 2, 3 and 6: the source has " + word.group());
        }
        Matcher array = Pattern.compile("(?m)^(.*)\\bnew\\b").matcher(code);
        while (array.find()) {
            check(array.group(1).matches("    private final \\w+\\[\\] \\w+ = "), "rule 4: new in " + array.group(1));
        }
    }

    private static void checkLengths(String source) {
        int start = 0;
        List<String> lines = source.lines().toList();
        for (int i = 0; i < lines.size(); i++) {
            if (lines.get(i).matches("    \\S.*\\{")) {
                start = i;
            }
            if (lines.get(i).equals("    }")) {
                check(i - start < SOME_SIXTY_LINES, "rule 10: too long: " + lines.get(start));
            }
        }
    }

    private static String withoutComments(String source) {
        return source.replaceAll("(?s)/\\*.*?\\*/", "").replaceAll("//[^\n]*", "");
    }

    /** The body of each method by its name; its first and its last line stand four columns in. */
    private static Map<String, String> bodies(String code) {
        Map<String, String> bodies = new TreeMap<>();
        Matcher member = Pattern.compile("(?ms)^    \\w[^\n(=;]*\\b(\\w+)\\([^\n]*\\{\n(.*?)^    }").matcher(code);
        while (member.find()) {
            check(bodies.put(member.group(1), member.group(2)) == null, "two methods bear the name " + member.group(1));
        }
        return bodies;
    }

    /** How deep the calls go from a method; a method that comes back to itself goes deeper than allowed, too. */
    private static int depth(Map<String, String> bodies, String name, int above) {
        int deepest = 1;
        if (above > DEEPEST_CALLS) {
            return deepest;
        }
        for (String called : bodies.keySet()) {
            if (Pattern.compile("\\b" + called + "\\(").matcher(bodies.get(name)).find()) {
                deepest = Math.max(deepest, 1 + depth(bodies, called, above + 1));
            }
        }
        return deepest;
    }

    private static void checkCalls(String source) {
        Map<String, String> bodies = bodies(withoutComments(source));
        check(bodies.size() == CliqueLister.class.getDeclaredMethods().length + 1, "found just " + bodies.keySet());
        for (String name : bodies.keySet()) {
            int depth = depth(bodies, name, 0);
            check(depth <= DEEPEST_CALLS, "rules 8 and 10: the calls of " + name + " go too deep");
        }
    }

    /** Walks through the brackets and remembers which of them hold the arguments of a call. */
    private static void checkArguments(String source) {
        String code = withoutComments(source);
        Deque<Boolean> open = new ArrayDeque<>();
        for (int i = 0; i < code.length(); i++) {
            if (code.charAt(i) == '(') {
                String word = code.substring(0, i).replaceAll("(?s)^.*?(\\w*)$", "$1");
                boolean call = !word.isEmpty() && !Set.of("if", "for", "while", "switch", "return").contains(word);
                check(!call || !open.contains(true), "rule 10: " + word + " is called inside the arguments of a call");
                open.push(call);
            }
            if (code.charAt(i) == ')') {
                open.pop();
            }
        }
    }

    public static void main(String[] args) throws Exception {
        String source = Files.readString(Path.of("src/main/java/CliqueLister.java"));
        checkClass();
        checkMethods();
        checkFields();
        checkSource(source);
        checkLengths(source);
        checkCalls(source);
        checkArguments(source);
        if (wrong != 0) {
            System.exit(1);
        }
    }
}
