import java.io.IOException;
import java.lang.reflect.Constructor;
import java.lang.reflect.Field;
import java.lang.reflect.Method;
import java.lang.reflect.Modifier;
import java.nio.file.Files;
import java.nio.file.Path;
import java.util.Arrays;
import java.util.Set;
import java.util.TreeSet;
import java.util.regex.Matcher;
import java.util.regex.Pattern;

/** The public face, and what of LANGUAGE.md can be seen by reflection or in the text. */
final class FaceTest {
    private static final String[] FACE = {
        "int jumper(int, int)", "int rig(int, int)", "int lend(int, int)", "int pack(int, int)", "int renew(int)",
        "int pass(int)", "int wind(int, int, int)", "int board(int, int, int)", "int empty()", "int fly(int, int)",
        "boolean hold(boolean)", "int gong()", "int ofJumper(int, int)", "double loading(int)",
        "double landed(int, boolean)", "int refuses(int)", "int ofRig(int, int)", "double wear(int)",
        "int ofWind(int, boolean)", "int many(int)", "int order(int)", "double wouldLand(int, int, int, int, boolean)",
        "int takes(int, int, int)", "int spot(int)", "int wouldMeet(int, int)", "int best(int)", "long digest()"};

    private static final String[] NOT_IN_THE_TEXT = {
        "->", "::", "\\bcatch\\b", "\\btry\\b", "\\bfinally\\b", "\\bsynchronized\\b", "\\bassert\\b", "\\bimport\\b",
        "\\bpackage\\b", "\\binstanceof\\b", "\\bhashCode\\b", "\\btoString\\b", "Exact\\(", "[^\\x00-\\x7f]",
        "\"\\s*\\+", "\\+\\s*\""};

    public static void main(String[] args) throws IOException {
        theFace();
        theClassesInside();
        theText();
        Checks.finish();
    }

    private static void theFace() {
        Class<?> type = ChuteLoft.class;
        Checks.same("the class is", Modifier.toString(type.getModifiers()), "public final");
        Set<String> publicOnes = new TreeSet<>();
        Set<String> publicNames = new TreeSet<>();
        Set<String> privateNames = new TreeSet<>();
        for (Method method : type.getDeclaredMethods()) {
            if (Modifier.isPublic(method.getModifiers())) {
                publicOnes.add(described(method));
                publicNames.add(method.getName());
            } else {
                Checks.same(method + " is private", Modifier.isPrivate(method.getModifiers()), true);
                privateNames.add(method.getName());
            }
        }
        Checks.same("the methods", publicOnes, new TreeSet<>(Arrays.asList(FACE)));
        privateNames.retainAll(publicNames);
        Checks.same("private methods with public names", privateNames, new TreeSet<String>());
        for (Constructor<?> constructor : type.getDeclaredConstructors()) {
            Checks.same("the constructor", constructor.toString(), "public ChuteLoft()");
        }
        for (Field field : type.getDeclaredFields()) {
            Checks.same(field + " is private", Modifier.isPrivate(field.getModifiers()), true);
            if (Modifier.isStatic(field.getModifiers())) {
                Checks.same(field + " is final", Modifier.isFinal(field.getModifiers()), true);
            }
        }
    }

    private static String described(Method method) {
        StringBuilder text = new StringBuilder();
        text.append(method.getReturnType().getSimpleName()).append(' ').append(method.getName()).append('(');
        for (Class<?> type : method.getParameterTypes()) {
            text.append(text.charAt(text.length() - 1) == '(' ? "" : ", ").append(type.getSimpleName());
        }
        return text.append(')').toString();
    }

    private static void theClassesInside() {
        Class<?>[] inside = ChuteLoft.class.getDeclaredClasses();
        Checks.same("at most eleven classes inside", inside.length <= 11, true);
        theSizeOf(ChuteLoft.class);
        for (Class<?> type : inside) {
            Checks.same(type + " is static", Modifier.isStatic(type.getModifiers()), true);
            Checks.same(type + " is not public", Modifier.isPublic(type.getModifiers()), false);
            theSizeOf(type);
        }
    }

    /** Rule 11: seven parameters at most, and some twenty fields beside the constants. */
    private static void theSizeOf(Class<?> type) {
        for (Method method : type.getDeclaredMethods()) {
            Checks.same(method + " takes at most seven", method.getParameterCount() <= 7, true);
        }
        int fields = 0;
        for (Field field : type.getDeclaredFields()) {
            fields += Modifier.isStatic(field.getModifiers()) ? 0 : 1;
        }
        Checks.same(type + " has at most twenty fields", fields <= 20, true);
    }

    private static void theText() throws IOException {
        String text = Files.readString(Path.of("src/main/java/ChuteLoft.java"));
        for (String pattern : NOT_IN_THE_TEXT) {
            Matcher matcher = Pattern.compile(pattern).matcher(text);
            Checks.same("the text has " + pattern, matcher.find() ? matcher.group() : "nothing", "nothing");
        }
    }
}
