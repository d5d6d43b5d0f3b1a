import java.io.IOException;
import java.lang.reflect.Constructor;
import java.lang.reflect.Field;
import java.lang.reflect.Method;
import java.lang.reflect.Modifier;
import java.nio.file.Files;
import java.nio.file.Path;
import java.util.Set;
import java.util.TreeSet;
import java.util.regex.Matcher;
import java.util.regex.Pattern;

/** The class has the face that the document prints, and nothing else that can be seen; and it keeps to LANGUAGE.md's words. */
public final class FaceTest {
    private static final Check CHECK = new Check("face");

    private static final String[] CONSTANTS = {"NONE=-11", "BAD=-12", "FULL=-13", "REFUSED=-14", "NOTHING=-15"};

    private static final String[] METHODS = {
        "int store(int,int,int)", "int take(int,int)", "int move(int,int,int)", "int order(int,int)", "int fix(int)",
        "int pass(int)", "int bayOf(int,int)", "int rungOf(int,int)", "int sum(int,int)", "int sumAgain(int,int)",
        "int reach(int)", "int reachAgain(int)", "int steps(int)", "int stepsAgain(int)", "int oldest(int)",
        "int commonAge()", "int tightest()", "int bestBay(int,int)", "int price(int,int)", "int append(int)",
        "int run()", "int tell(int)", "int tellRung(int)", "int character(int)", "int reason(boolean)",
        "int account(int)", "int isBalanced()", "double meanSacks()", "float soundShare()", "int undo()", "int save()",
        "int restore()",
    };

    /** What the rules 2, 4, 6 and 13 rule out, as the source would show it. */
    private static final String[] RULED_OUT = {
        "->", "::", "\\bimport\\b", "\\bpackage\\b", "\\bcatch\\b", "\\bfinally\\b", "\\bthrow\\b", "\\bthrows\\b",
        "\\bassert\\b", "\\bsynchronized\\b", "\\bprotected\\b", "\\bSystem\\b", "\\bRandom\\b", "Exact\\(",
        "\\binstanceof\\b", "\\bObject\\b", "\\bvar\\b",
    };

    public static void main(String[] args) throws IOException, IllegalAccessException {
        Class<?> face = GranaryLadder.class;
        CHECK.due("the class is public and final", 1,
                Modifier.isPublic(face.getModifiers()) && Modifier.isFinal(face.getModifiers()) ? 1 : 0);
        constants(face);
        constructors(face);
        methods(face);
        source();
        CHECK.end();
    }

    private static void constants(Class<?> face) throws IllegalAccessException {
        Set<String> due = new TreeSet<>(Set.of(CONSTANTS));
        Set<String> found = new TreeSet<>();
        for (Field field : face.getDeclaredFields()) {
            int modifiers = field.getModifiers();
            if (!Modifier.isPrivate(modifiers)) {
                CHECK.due(field.getName() + " is public, static and final", Modifier.PUBLIC | Modifier.STATIC | Modifier.FINAL, modifiers);
                found.add(field.getName() + "=" + field.getInt(null));
            }
            if (Modifier.isStatic(modifiers)) {
                CHECK.due(field.getName() + " is final", 1, Modifier.isFinal(modifiers) ? 1 : 0);
            }
        }
        CHECK.dueText("constants", due.toString(), found.toString());
    }

    private static void constructors(Class<?> face) {
        CHECK.due("constructors", 1, face.getDeclaredConstructors().length);
        for (Constructor<?> constructor : face.getDeclaredConstructors()) {
            CHECK.due("the constructor's parameters", 0, constructor.getParameterCount());
            CHECK.due("the constructor is public", 1, Modifier.isPublic(constructor.getModifiers()) ? 1 : 0);
        }
    }

    private static void methods(Class<?> face) {
        Set<String> due = new TreeSet<>(Set.of(METHODS));
        Set<String> found = new TreeSet<>();
        for (Method method : face.getDeclaredMethods()) {
            if (!Modifier.isPrivate(method.getModifiers()) && !method.isSynthetic()) {
                CHECK.due(method.getName() + " is public", Modifier.PUBLIC, method.getModifiers());
                found.add(signature(method));
            }
        }
        CHECK.dueText("methods", due.toString(), found.toString());
        for (Class<?> inner : face.getDeclaredClasses()) {
            namesDiffer(inner, found);
        }
        for (Method method : face.getDeclaredMethods()) {
            if (Modifier.isPrivate(method.getModifiers())) {
                CHECK.due(method.getName() + " is no name of the face", 0, isNameOf(method, found) ? 1 : 0);
            }
        }
    }

    private static void namesDiffer(Class<?> inner, Set<String> found) {
        CHECK.due(inner.getName() + " is static and not public", 1,
                Modifier.isStatic(inner.getModifiers()) && !Modifier.isPublic(inner.getModifiers()) ? 1 : 0);
        for (Method method : inner.getDeclaredMethods()) {
            CHECK.due(method.getName() + " is no name of the face", 0, isNameOf(method, found) ? 1 : 0);
        }
    }

    private static boolean isNameOf(Method method, Set<String> found) {
        return found.stream().anyMatch(signature -> signature.contains(" " + method.getName() + "("));
    }

    private static String signature(Method method) {
        StringBuilder parameters = new StringBuilder();
        for (Class<?> type : method.getParameterTypes()) {
            parameters.append(parameters.length() == 0 ? "" : ",").append(type.getName());
        }
        return method.getReturnType().getName() + " " + method.getName() + "(" + parameters + ")";
    }

    private static void source() throws IOException {
        String source = Files.readString(Path.of("src/main/java/GranaryLadder.java"));
        String code = source.replaceAll("(?s)/\\*.*?\\*/", "").replaceAll("//[^\n]*", "");
        for (String word : RULED_OUT) {
            Matcher matcher = Pattern.compile(word).matcher(code);
            CHECK.due("the source has " + word, 0, matcher.find() ? 1 : 0);
        }
        CHECK.due("all signs are 1 to 127", 1, source.chars().allMatch(sign -> sign >= 1 && sign <= 127) ? 1 : 0);
    }
}
