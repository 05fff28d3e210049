import java.io.IOException;
import java.lang.reflect.InvocationTargetException;
import java.lang.reflect.Method;
import java.lang.reflect.Modifier;
import java.nio.file.Files;
import java.nio.file.Path;
import java.util.Arrays;
import java.util.Comparator;

/** What the tests by hand share: ways to tell a method, the words of the document, the count of wrong answers. */
class TestKit {
    static final int BAD = -1, FULL = -2, STATE = -3, NONE = -4;
    static final int INT = 0, WIDE = 1, NULL = 2, LOAD = 3, STORE = 4, POP = 5, TWICE = 6, ADD = 7, ADD_WIDE = 8,
            NEW = 9, MAKE = 10, FIELD = 11, CALL = 12, CAST = 13, GO = 14, IF = 15, SWITCH = 16, GIVE = 17,
            GIVE_OBJECT = 18, THROW = 19, MORE = 20;
    static final int EMPTY = 1, TYPE = 2, DEEP = 3, HEIGHT = 4, END = 5, UNMADE = 6, PLACE = 7, NO_FRAME = 8,
            UNFIT = 9;
    static final int LOW = Integer.MIN_VALUE, HIGH = Integer.MAX_VALUE;
    static final int[] NO_METHODS = {-1, 8, 9, LOW, HIGH};

    private static final String DOCUMENT = "../shared/DOC.md";

    private static int wrong = 0;
    private static int asked = 0;
    private static int sentences = 0;
    private static String topic = "";
    private static String document = null;

    static void say(String what) {
        wrong++;
        System.out.println(topic + what);
    }

    static void due(String what, int got, int want) {
        asked++;
        if (got != want) {
            say(what + " answered " + got + ", due is " + want);
        }
    }

    static void due(String what, String got, String want) {
        asked++;
        if (!got.equals(want)) {
            say(what + " is " + got + ", due is " + want);
        }
    }

    static void end() {
        System.out.println(wrong == 0 ? asked + " answers are as due" : wrong + " of " + asked + " are not as due");
        if (wrong != 0) {
            System.exit(1);
        }
    }

    /** What follows is asked because of these words, which have to stand at the promise or ahead of all promises. */
    static void sentence(int promise, String words) {
        sentences++;
        topic = "promise " + promise + ", \"" + words + "\": ";
        String all = document();
        String terms = between(all, "# ClosureFrames", "## Promise 1:");
        String own = between(all, "## Promise " + promise + ":", "## ");
        if (!all.isEmpty() && !terms.contains(words) && !own.contains(words)) {
            say("these words are not in the document");
        }
    }

    private static String between(String all, String from, String to) {
        int start = all.indexOf(from);
        if (start < 0) {
            return "";
        }
        int end = all.indexOf(to, start + from.length());
        return all.substring(start, end < 0 ? all.length() : end);
    }

    /** Empty if the document is not at hand: what the class answers can be looked at without it. */
    private static String document() {
        if (document == null) {
            try {
                document = Files.readString(Path.of(DOCUMENT)).replaceAll("\\s+", " ");
            } catch (IOException e) {
                document = "";
                System.out.println("the words were not looked up: there is no " + DOCUMENT);
            }
        }
        return document;
    }

    /** Runs every method of a test that takes nothing, so that none can be forgotten; each has its own sentence. */
    static void runAll(Class<?> test) {
        Method[] all = test.getDeclaredMethods();
        Arrays.sort(all, Comparator.comparing(Method::getName));
        for (Method each : all) {
            if (Modifier.isStatic(each.getModifiers()) && each.getParameterCount() == 0
                    && each.getReturnType() == void.class) {
                runOne(each);
            }
        }
        topic = "";
        System.out.println(sentences + " sentences");
        end();
    }

    private static void runOne(Method test) {
        int sentencesBefore = sentences;
        int askedBefore = asked;
        topic = test.getName() + ": ";
        try {
            test.invoke(null);
        } catch (IllegalAccessException | InvocationTargetException e) {
            say("threw " + e.getCause());
        }
        if (sentences != sentencesBefore + 1 || asked == askedBefore) {
            say(test.getName() + " has to name one sentence and to ask something");
        }
    }

    /** An object with classes 1 below the root, 2 and 3 below 1, 4 a face, 5 below the root. */
    static ClosureFrames withClasses() {
        ClosureFrames x = new ClosureFrames();
        x.cls(0, false);
        x.cls(1, false);
        x.cls(1, false);
        x.cls(0, true);
        x.cls(0, false);
        return x;
    }

    /** Tells acts, each as kind, a, b (what is left out is 0). */
    static ClosureFrames tell(ClosureFrames x, int method, int[]... acts) {
        for (int[] each : acts) {
            int a = each.length > 1 ? each[1] : 0;
            int b = each.length > 2 ? each[2] : 0;
            if (x.act(method, each[0], a, b) < 0) {
                say("an act of a test was refused: " + each[0] + ", " + a + ", " + b);
            }
        }
        return x;
    }

    static int[] a(int... numbers) {
        return numbers;
    }

    /** A number of acts of one kind, then others. */
    static int[][] many(int n, int kind, int[]... then) {
        int[][] all = new int[n + then.length][];
        Arrays.fill(all, 0, n, a(kind));
        System.arraycopy(then, 0, all, n, then.length);
        return all;
    }

    /** An object of the classes above whose method 0 has some places and arguments. */
    static ClosureFrames places(int n, int... arguments) {
        ClosureFrames x = withClasses();
        x.clear(0, n);
        for (int type : arguments) {
            if (x.argument(0, type) < 0) {
                say("an argument of a test was refused: " + type);
            }
        }
        return x;
    }

    /** The last method is computed beside the first, so that a method's number that wraps would be answered. */
    static ClosureFrames atBothEnds(ClosureFrames x) {
        tell(x, 7, a(GO, 0));
        due("compute", x.compute(7), 1);
        return x;
    }

    /** An object whose method 0 was computed with a fault at act 1. */
    static ClosureFrames byAFault() {
        ClosureFrames x = places(4);
        tell(x, 0, a(GO, 1), a(POP));
        due("compute", x.compute(0), -11);
        return x;
    }

    /** Method 0 with some places and the acts has a fault at an act. */
    static void faulty(String what, int places, int fault, int at, int[]... acts) {
        faultyHere(what, places(places), fault, at, acts);
    }

    static void faultyHere(String what, ClosureFrames x, int fault, int at, int[]... acts) {
        tell(x, 0, acts);
        due(what + ": compute", x.compute(0), -10 - at);
        due(what + ": fault", x.fault(), fault);
        due(what + ": told(31)", x.told(31), NONE);
        due(what + ": state", x.state(0, 0, 0), STATE);
    }

    static ClosureFrames right(String what, int places, int frames, int[]... acts) {
        return rightHere(what, places(places), frames, acts);
    }

    static ClosureFrames rightHere(String what, ClosureFrames x, int frames, int[]... acts) {
        tell(x, 0, acts);
        due(what + ": compute", x.compute(0), frames);
        due(what + ": fault", x.fault(), 0);
        due(what + ": told(31)", x.told(31), frames);
        return x;
    }

    static void statesAre(String what, ClosureFrames x, int act, int... types) {
        for (int i = 0; i < types.length; i++) {
            due(what + ", place " + i, x.state(0, act, i), types[i]);
        }
    }
}
