import java.io.IOException;
import java.lang.reflect.Constructor;
import java.lang.reflect.Field;
import java.lang.reflect.Member;
import java.lang.reflect.Method;
import java.lang.reflect.Modifier;
import java.nio.file.Files;
import java.nio.file.Path;
import java.util.Arrays;
import java.util.Set;
import java.util.TreeSet;
import java.util.regex.Matcher;
import java.util.regex.Pattern;

/** The rules of LANGUAGE.md that can be looked at from outside: the face, words that it leaves out, short methods. */
public final class LanguageTest {
    private static final String SOURCE = "src/main/java/ClosureFrames.java";
    private static final String LEFT_OUT = "\\b(throw|throws|try|catch|finally|synchronized|assert|import|package|native"
            + "|volatile|transient|protected|Object|Exception|Error|Thread|Random|System\\.(?!arraycopy)\\w+|hashCode"
            + "|toString|\\w+Exact)\\b|->|::";
    private static final Set<String> FACE = new TreeSet<>(Arrays.asList(
            "int cls(int, boolean)", "int joined(int, int)", "int is(int, int)", "int clear(int, int)",
            "int argument(int, int)", "int act(int, int, int, int)", "int guard(int, int, int, int, int)",
            "int compute(int)", "int fault()", "int state(int, int, int)", "int frame(int, int, int)",
            "int form(int, int)", "int shared(int, int)", "int maximum(int, int)", "int plant(int, int, int, int)",
            "int verify(int)", "int told(int)"));
    private static final Set<String> CONSTANTS = new TreeSet<>(Arrays.asList("BAD", "FULL", "STATE", "NONE"));

    private static int wrong = 0;

    private static void say(String what) {
        wrong++;
        System.out.println(what);
    }

    public static void main(String[] args) throws IOException {
        lookAtFace();
        lookAtClass(ClosureFrames.class);
        for (Class<?> inside : ClosureFrames.class.getDeclaredClasses()) {
            lookAtInside(inside);
            lookAtClass(inside);
        }
        lookAtSource(Files.readString(Path.of(SOURCE)));
        System.out.println(wrong == 0 ? "the language is kept" : wrong + " breaches of the language");
        if (wrong != 0) {
            System.exit(1);
        }
    }

    private static boolean isSeen(Member m) {
        return !Modifier.isPrivate(m.getModifiers()) && !m.isSynthetic();
    }

    private static void lookAtFace() {
        int modifiers = ClosureFrames.class.getModifiers();
        if (!Modifier.isPublic(modifiers) || !Modifier.isFinal(modifiers)) {
            say("the class is not public and final");
        }
        Set<String> seen = new TreeSet<>();
        Set<String> names = new TreeSet<>();
        for (Method m : ClosureFrames.class.getDeclaredMethods()) {
            if (isSeen(m)) {
                String takes = Arrays.toString(m.getParameterTypes());
                seen.add(m.getReturnType() + " " + m.getName() + "(" + takes.substring(1, takes.length() - 1) + ")");
                names.add(m.getName());
            }
        }
        if (!seen.equals(FACE)) {
            say("the face is " + seen);
        }
        for (Method m : ClosureFrames.class.getDeclaredMethods()) {
            if (!isSeen(m) && names.contains(m.getName())) {
                say("a private method bears the name " + m.getName());
            }
        }
        Set<String> constants = new TreeSet<>();
        for (Field f : ClosureFrames.class.getDeclaredFields()) {
            if (isSeen(f)) {
                constants.add(f.getName());
            }
        }
        if (!constants.equals(CONSTANTS)) {
            say("the constants are " + constants);
        }
        Constructor<?>[] made = ClosureFrames.class.getDeclaredConstructors();
        if (made.length != 1 || !Modifier.isPublic(made[0].getModifiers()) || made[0].getParameterCount() != 0) {
            say("the constructor is not the document's");
        }
    }

    private static void lookAtInside(Class<?> inside) {
        if (!Modifier.isStatic(inside.getModifiers()) || Modifier.isPublic(inside.getModifiers())) {
            say(inside.getName() + " is not a static class of its own");
        }
        for (Method m : inside.getDeclaredMethods()) {
            if (FACE.stream().anyMatch(f -> f.startsWith("int " + m.getName() + "("))) {
                say(inside.getName() + " has a method with a name of the face: " + m.getName());
            }
        }
    }

    private static void lookAtClass(Class<?> each) {
        int fields = 0;
        for (Field f : each.getDeclaredFields()) {
            boolean isStatic = Modifier.isStatic(f.getModifiers());
            fields += isStatic ? 0 : 1;
            if (isStatic && !Modifier.isFinal(f.getModifiers())) {
                say(each.getName() + " has static state: " + f.getName());
            }
        }
        if (fields > 20) {
            say(each.getName() + " has " + fields + " fields");
        }
        for (Method m : each.getDeclaredMethods()) {
            if (m.getParameterCount() > 7) {
                say(m.getName() + " takes too much");
            }
        }
    }

    private static void lookAtSource(String source) {
        String code = source.replaceAll("(?s)/\\*.*?\\*/", "").replaceAll("//[^\n]*", "");
        Matcher out = Pattern.compile(LEFT_OUT).matcher(code);
        while (out.find()) {
            say("the language leaves out " + out.group());
        }
        String start = null;
        int length = 0;
        for (String line : source.split("\n")) {
            if (line.matches("( {4}| {8})\\w.*\\) \\{")) {
                start = line.trim();
                length = 0;
            }
            length++;
            if (start != null && length > 60) {
                say("a long method: " + start);
                start = null;
            }
            if (line.matches("( {4}| {8})\\}")) {
                start = null;
            }
        }
        if (ClosureFrames.class.getDeclaredClasses().length > 11) {
            say("too many classes");
        }
    }
}
