/** Promises 1 to 8: a test of its own for each sentence that names a boundary case. */
public final class TellingBoundariesTest extends TestKit {
    public static void main(String[] args) {
        runAll(TellingBoundariesTest.class);
    }

    /** Method 0 with an argument, a guard and two frames, computed. */
    private static ClosureFrames sample() {
        ClosureFrames x = places(4, 1);
        x.guard(0, 2, 4, 6, 1);
        tell(x, 0, a(LOAD, 0), a(IF, 4), a(NULL), a(STORE, 1), a(INT), a(GIVE), a(THROW, 1));
        x.compute(0);
        return x;
    }

    /** What can be asked of method 0, in some 70 calls. */
    private static String all(ClosureFrames x) {
        StringBuilder s = new StringBuilder();
        for (int what : new int[] {0, 1, 2, 11, 12, 21, 22, 31, 32}) {
            s.append(x.told(what)).append(' ');
        }
        s.append(x.fault()).append(' ').append(x.maximum(0, 0)).append(' ').append(x.maximum(0, 1)).append(' ');
        for (int p = 0; p < 7; p++) {
            s.append(x.state(0, p, 0)).append(' ').append(x.state(0, p, 1)).append(' ');
            s.append(x.state(0, p, 99)).append(' ').append(x.shared(0, p)).append(' ');
        }
        for (int k = 0; k < 2; k++) {
            s.append(x.frame(0, k, 98)).append(' ').append(x.frame(0, k, 0)).append(' ').append(x.frame(0, k, 1));
            s.append(' ').append(x.frame(0, k, 99)).append(' ').append(x.form(0, k)).append(' ');
        }
        return s.toString();
    }

    /** Method 0 was computed and changed: nothing that was computed is told of it any more. */
    private static void isChanged(String what, ClosureFrames x) {
        due(what + ": told(31)", x.told(31), NONE);
        due(what + ": frame", x.frame(0, 0, 98), STATE);
        due(what + ": form", x.form(0, 0), STATE);
        due(what + ": maximum", x.maximum(0, 0), STATE);
        due(what + ": plant", x.plant(0, 0, 0, 1), STATE);
        due(what + ": verify", x.verify(0), STATE);
    }

    static void p01TheRootAlone() {
        sentence(1, "THE ROOT alone");
        ClosureFrames x = new ClosureFrames();
        due("told(0)", x.told(0), 1);
        due("is(0, 0)", x.is(0, 0), 1);
        due("is(0, 1)", x.is(0, 1), BAD);
        due("joined(1, 1)", x.joined(1, 1), BAD);
        due("argument(0, 11)", x.argument(0, 11), BAD);
        due("argument(0, 10)", x.argument(0, 10), 0);
        due("cls(0, false)", x.cls(0, false), 1);
    }

    static void p01FourPlaces() {
        sentence(1, "METHODS with 4 PLACES");
        ClosureFrames x = new ClosureFrames();
        for (int m = 0; m < 8; m++) {
            due("told", x.told(21 + m), 4);
            for (int i = 0; i < 4; i++) {
                due("argument", x.argument(m, 1), i);
            }
            due("a fifth argument", x.argument(m, 1), FULL);
            x.act(m, MORE, 3, 0);
            x.act(m, MORE, 4, 0);
            due("place 3 is there, place 4 is not", x.compute(m), -11);
        }
    }

    static void p01WithoutActs() {
        sentence(1, "without ACTS");
        ClosureFrames x = new ClosureFrames();
        for (int m = 0; m < 8; m++) {
            due("acts", x.told(1 + m), 0);
            due("guards", x.told(11 + m), 0);
            due("frames", x.told(31 + m), NONE);
            due("compute", x.compute(m), BAD);
            due("state", x.state(m, 0, 0), BAD);
            due("verify", x.verify(m), STATE);
            due("the first argument", x.argument(m, 1), 0);
            due("the first act", x.act(m, INT, 0, 0), 0);
        }
        due("fault", x.fault(), 0);
    }

    static void p01EightMethods() {
        sentence(1, "METHODS 0 .. 7");
        ClosureFrames x = new ClosureFrames();
        for (int m = 0; m < 8; m++) {
            due("act", x.act(m, GO, 0, 0), 0);
            due("compute", x.compute(m), 1);
            due("clear", x.clear(m, 1 + m), 1);
        }
        for (int m = 0; m < 8; m++) {
            due("each has its own places", x.told(21 + m), 1 + m);
        }
        for (int m : NO_METHODS) {
            due("act", x.act(m, GO, 0, 0), BAD);
            due("clear", x.clear(m, 4), BAD);
        }
    }

    static void p01FiveHundredTwelveCalls() {
        sentence(1, "An object is used for at most 512 calls after it has been made");
        ClosureFrames x = new ClosureFrames();
        for (int p = 0; p < 40; p++) {
            x.act(0, GO, (p + 1) % 40, 0);
        }
        for (int call = 41; call <= 511; call++) {
            due("call " + call, call % 2 == 0 ? x.compute(0) : x.told(31), call == 41 ? NONE : 40);
        }
        due("call 512", x.verify(0), 0);
    }

    static void p02NoSuchParent() {
        sentence(2, "A CLASS below one");
        ClosureFrames x = new ClosureFrames();
        for (int count = 1; count < 4; count++) {
            for (int parent : new int[] {-1, count, 15, 16, LOW, HIGH}) {
                due("cls(" + parent + ", false)", x.cls(parent, false), BAD);
                due("cls(" + parent + ", true)", x.cls(parent, true), BAD);
            }
            due("the newest one", x.cls(count - 1, false), count);
        }
    }

    static void p02AFaceHasTheRootAboveIt() {
        sentence(2, "or a FACE (parent 0)");
        ClosureFrames x = new ClosureFrames();
        due("a class", x.cls(0, false), 1);
        due("a face below it", x.cls(1, true), BAD);
        due("a face below the root", x.cls(0, true), 2);
        due("it is a face", x.is(1, 2), 1);
        due("it is the root", x.is(2, 0), 1);
    }

    static void p02NothingBelowAFace() {
        sentence(2, "none a FACE");
        ClosureFrames x = new ClosureFrames();
        due("a face", x.cls(0, true), 1);
        due("a class below it", x.cls(1, false), BAD);
        due("a face below it", x.cls(1, true), BAD);
        due("a class beside it", x.cls(0, false), 2);
        due("below that", x.cls(2, false), 3);
    }

    static void p02ItsNumber() {
        sentence(2, "its number");
        ClosureFrames x = new ClosureFrames();
        for (int c = 1; c < 16; c++) {
            due("cls", x.cls(0, c % 3 == 0), c);
            due("told(0)", x.told(0), c + 1);
        }
    }

    /** As many classes as there can be: 2 a face, the others in one line. */
    private static ClosureFrames sixteen() {
        ClosureFrames x = new ClosureFrames();
        x.cls(0, false);
        x.cls(0, true);
        x.cls(1, false);
        for (int c = 4; c < 16; c++) {
            x.cls(c - 1, false);
        }
        return x;
    }

    static void p02SixteenAtMost() {
        sentence(2, "CLASSES, numbered from 0, 16 at most");
        ClosureFrames x = sixteen();
        due("told(0)", x.told(0), 16);
        due("the last is there", x.is(15, 15), 1);
        due("one behind it is not", x.is(16, 16), BAD);
        due("a class more", x.cls(0, false), FULL);
        due("a class below the last", x.cls(15, false), FULL);
        due("a face more", x.cls(0, true), FULL);
    }

    static void p02BadAheadOfFull() {
        sentence(2, "its number. BAD; FULL.");
        ClosureFrames x = sixteen();
        due("no such parent", x.cls(16, false), BAD);
        due("no such parent", x.cls(-1, true), BAD);
        due("below a face", x.cls(2, false), BAD);
        due("a face below a class", x.cls(1, true), BAD);
        due("full", x.cls(1, false), FULL);
    }

    static void p02RefusedChangesNothing() {
        sentence(2, "What is refused changes nothing.");
        ClosureFrames x = new ClosureFrames();
        x.cls(0, false);
        x.cls(5, false);
        x.cls(1, true);
        due("told(0)", x.told(0), 2);
        due("is(2, 0)", x.is(2, 0), BAD);
        due("the next number", x.cls(1, false), 2);
        due("it is no face", x.is(0, 2), 0);
        ClosureFrames y = sixteen();
        y.cls(0, true);
        due("told(0)", y.told(0), 16);
        due("the last is as it was", y.is(15, 14), 1);
        due("the last is as it was", y.is(14, 15), 0);
    }

    static void p03TheSame() {
        sentence(3, "the same one if they are the same");
        ClosureFrames x = sixteen();
        for (int c = 0; c < 16; c++) {
            due("joined with itself: " + c, x.joined(c, c), c);
        }
    }

    static void p03AFace() {
        sentence(3, "THE ROOT if one is a FACE");
        ClosureFrames x = withClasses();
        int face = x.cls(0, true);
        for (int c : new int[] {0, 1, 2, 3, 5}) {
            due("a face and " + c, x.joined(4, c), 0);
            due(c + " and a face", x.joined(c, 4), 0);
        }
        due("two faces", x.joined(4, face), 0);
    }

    static void p03TheNearest() {
        sentence(3, "else the nearest that is each of them or above it");
        ClosureFrames x = withClasses();
        int below = x.cls(3, false);
        due("one is above the other", x.joined(below, 1), 1);
        due("one is above the other", x.joined(3, below), 3);
        due("both are below one", x.joined(2, below), 1);
        due("nothing but the root", x.joined(5, below), 0);
        due("the root itself", x.joined(0, below), 0);
        ClosureFrames y = new ClosureFrames();
        for (int c = 1; c < 16; c++) {
            y.cls(c - 1, false);
        }
        due("the longest line", y.joined(15, 14), 14);
        due("the longest line", y.joined(0, 15), 0);
        due("the longest line", y.joined(15, 1), 1);
    }

    static void p03NoSuchClass() {
        sentence(3, "JOIN of two CLASSES. BAD.");
        ClosureFrames x = withClasses();
        for (int c : new int[] {-1, 6, 15, 16, LOW, HIGH}) {
            due("the first is " + c, x.joined(c, 0), BAD);
            due("the second is " + c, x.joined(0, c), BAD);
            due("with a face", x.joined(4, c), BAD);
            due("both are", x.joined(c, c), BAD);
        }
        due("the last one", x.joined(5, 5), 5);
    }

    static void p04Itself() {
        sentence(4, "A CLASS IS another one, if that is it");
        ClosureFrames x = sixteen();
        for (int c = 0; c < 16; c++) {
            due("itself: " + c, x.is(c, c), 1);
        }
    }

    static void p04Above() {
        sentence(4, "above it, THE ROOT, or a FACE");
        ClosureFrames x = withClasses();
        int below = x.cls(3, false);
        due("right above", x.is(below, 3), 1);
        due("further above", x.is(below, 1), 1);
        due("the root", x.is(below, 0), 1);
        due("the root of a face", x.is(4, 0), 1);
        due("a class is a face", x.is(below, 4), 1);
        due("the root is a face", x.is(0, 4), 1);
        due("a face is another one", x.is(4, x.cls(0, true)), 1);
    }

    static void p04ElseNot() {
        sentence(4, "Whether a CLASS IS another one: 1, 0.");
        ClosureFrames x = withClasses();
        due("below it", x.is(1, 2), 0);
        due("beside it", x.is(2, 3), 0);
        due("beside what is above it", x.is(2, 5), 0);
        due("the root", x.is(0, 1), 0);
        due("a face", x.is(4, 1), 0);
    }

    static void p04NoSuchClass() {
        sentence(4, "1, 0. BAD.");
        ClosureFrames x = withClasses();
        for (int c : new int[] {-1, 6, 15, 16, LOW, HIGH}) {
            due("the first is " + c, x.is(c, 0), BAD);
            due("the second is " + c, x.is(0, c), BAD);
            due("to a face", x.is(c, 4), BAD);
            due("both are", x.is(c, c), BAD);
        }
    }

    static void p05OneToEightPlaces() {
        sentence(5, "have PLACES (1 .. 8)");
        ClosureFrames x = withClasses();
        for (int n : new int[] {0, -1, 9, LOW, HIGH}) {
            due("clear(0, " + n + ")", x.clear(0, n), BAD);
        }
        for (int n = 1; n <= 8; n++) {
            due("clear(0, " + n + ")", x.clear(0, n), 0);
            due("told(21)", x.told(21), n);
            for (int i = 0; i < n; i++) {
                due("argument", x.argument(0, 1), i);
            }
            due("one argument more", x.argument(0, 1), FULL);
        }
    }

    static void p05NothingIsLeft() {
        sentence(5, "no ARGUMENTS, ACTS, GUARDS");
        ClosureFrames x = sample();
        x.clear(0, 4);
        due("acts", x.told(1), 0);
        due("guards", x.told(11), 0);
        due("no act", x.shared(0, 0), BAD);
        due("compute", x.compute(0), BAD);
        due("the first act", x.act(0, GO, 1, 0), 0);
        due("the second act", x.act(0, GO, 2, 0), 1);
        due("the third act", x.act(0, GO, 2, 0), 2);
        due("the guard is gone", x.compute(0), 2);
        due("the argument is gone", x.state(0, 0, 0), 0);
        due("the first argument", x.argument(0, 2), 0);
        due("the first guard", x.guard(0, 0, 1, 0, 0), 0);
    }

    static void p05HowManyItHad() {
        sentence(5, "how many ACTS it had");
        ClosureFrames x = withClasses();
        due("none", x.clear(0, 4), 0);
        tell(x, 0, a(INT));
        due("one", x.clear(0, 4), 1);
        tell(x, 0, many(40, INT));
        due("forty", x.clear(0, 8), 40);
        due("none again", x.clear(0, 8), 0);
    }

    static void p05NoSuchMethod() {
        sentence(5, "how many ACTS it had. BAD.");
        ClosureFrames x = sample();
        tell(x, 7, a(INT));
        for (int m : NO_METHODS) {
            due("clear(" + m + ", 4)", x.clear(m, 4), BAD);
        }
        due("the first method has its acts", x.told(1), 7);
        due("the last method has its acts", x.told(8), 1);
    }

    static void p05RefusedChangesNothing() {
        sentence(5, "What is refused changes nothing.");
        ClosureFrames x = sample();
        String before = all(x);
        x.clear(0, 0);
        x.clear(0, 9);
        x.clear(8, 4);
        due("all", all(x), before);
    }

    static void p05Changed() {
        sentence(5, "STATE -3: not computed since the METHOD changed");
        ClosureFrames x = sample();
        x.clear(0, 4);
        isChanged("clear", x);
    }

    static void p06Types() {
        sentence(6, "An ARGUMENT more (a TYPE 1, 2, 10 + c)");
        ClosureFrames x = withClasses();
        for (int type = -2; type <= 142; type++) {
            boolean told = type == 1 || type == 2 || (type >= 10 && type < 16);
            due("type " + type, x.argument(0, type), told ? 0 : BAD);
            x.clear(0, 4);
        }
        due("type LOW", x.argument(0, LOW), BAD);
        due("type LOW + 10", x.argument(0, LOW + 10), BAD);
        due("type HIGH", x.argument(0, HIGH), BAD);
        due("a class more", x.cls(0, false), 6);
        due("its type", x.argument(0, 16), 0);
    }

    static void p06ItsPlace() {
        sentence(6, "a WIDE in PLACE x has a REST in x + 1");
        ClosureFrames x = withClasses();
        x.clear(0, 8);
        due("a wide", x.argument(0, 2), 0);
        due("behind its rest", x.argument(0, 1), 2);
        due("a wide", x.argument(0, 2), 3);
        due("behind its rest", x.argument(0, 10), 5);
        due("in the last two", x.argument(0, 2), 6);
        tell(x, 0, a(GO, 0));
        due("compute", x.compute(0), 1);
        statesAre("the beginning", x, 0, 2, 3, 1, 2, 3, 10, 2, 3);
    }

    static void p06NoPlaceForIt() {
        sentence(6, "FULL: no PLACE for it");
        ClosureFrames x = withClasses();
        x.clear(0, 1);
        due("a wide in one place", x.argument(0, 2), FULL);
        due("an int in one place", x.argument(0, 1), 0);
        for (int type : new int[] {1, 2, 10}) {
            due("no place is left: " + type, x.argument(0, type), FULL);
        }
        x.clear(0, 8);
        for (int i = 0; i < 7; i++) {
            due("seven", x.argument(0, 11), i);
        }
        due("a wide in the last place", x.argument(0, 2), FULL);
        due("an object in the last place", x.argument(0, 11), 7);
        due("a ninth", x.argument(0, 11), FULL);
    }

    static void p06BadAheadOfFull() {
        sentence(6, "its PLACE. BAD; FULL");
        ClosureFrames x = places(1, 1);
        for (int type : new int[] {0, 3, 4, 9, 16, 100}) {
            due("type " + type, x.argument(0, type), BAD);
        }
        due("full", x.argument(0, 15), FULL);
    }

    static void p06NoSuchMethod() {
        sentence(6, "its PLACE. BAD");
        ClosureFrames x = new ClosureFrames();
        for (int m : NO_METHODS) {
            due("argument(" + m + ", 1)", x.argument(m, 1), BAD);
        }
        due("the first method has none", x.argument(0, 1), 0);
        due("the last method has none", x.argument(7, 1), 0);
    }

    static void p06RefusedChangesNothing() {
        sentence(6, "What is refused changes nothing.");
        ClosureFrames x = sample();
        String before = all(x);
        x.argument(0, 3);
        x.argument(0, 16);
        due("all", all(x), before);
        ClosureFrames y = places(2, 1);
        tell(y, 0, a(GO, 0));
        y.compute(0);
        due("full", y.argument(0, 2), FULL);
        due("it stays computed", y.told(31), 1);
        due("place 1", y.state(0, 0, 1), 0);
        due("the place is left", y.argument(0, 1), 1);
    }

    static void p06Changed() {
        sentence(6, "STATE -3: not computed since the METHOD changed");
        ClosureFrames x = sample();
        due("argument", x.argument(0, 1), 1);
        isChanged("argument", x);
        due("argument: state", x.state(0, 0, 0), STATE);
    }

    static void p07Kinds() {
        sentence(7, "BAD: kind 0 .. 20");
        ClosureFrames x = withClasses();
        for (int kind : new int[] {-1, 21, 22, 100, LOW, HIGH}) {
            due("kind " + kind, x.act(0, kind, 0, 0), BAD);
        }
        for (int kind = 0; kind <= 20; kind++) {
            due("kind " + kind, x.act(0, kind, 0, 0), kind);
        }
    }

    static void p07Places() {
        sentence(7, "PLACES 0 .. 7");
        ClosureFrames x = places(1);
        int n = 0;
        for (int kind : new int[] {LOAD, STORE, MORE}) {
            for (int place : new int[] {-1, 8, LOW, HIGH}) {
                due("kind " + kind + ", place " + place, x.act(0, kind, place, 0), BAD);
            }
            due("kind " + kind + ", place 0", x.act(0, kind, 0, 0), n++);
            due("kind " + kind + ", place 7, beyond the method's own", x.act(0, kind, 7, 0), n++);
        }
    }

    static void p07Classes() {
        sentence(7, "CLASSES that there are not");
        ClosureFrames x = withClasses();
        int n = 0;
        for (int kind : new int[] {NEW, MAKE, FIELD, CALL, CAST, GIVE_OBJECT, THROW}) {
            for (int c : new int[] {-1, 6, 15, 16, LOW, HIGH}) {
                due("kind " + kind + ", class " + c, x.act(0, kind, c, 0), BAD);
            }
            due("kind " + kind + ", the root", x.act(0, kind, 0, 0), n++);
            due("kind " + kind + ", a face", x.act(0, kind, 4, 0), n++);
            due("kind " + kind + ", the last class", x.act(0, kind, 5, 0), n++);
        }
    }

    static void p07Acts() {
        sentence(7, "ACTS that are not 0 .. 39");
        ClosureFrames x = withClasses();
        int n = 0;
        for (int kind : new int[] {GO, IF}) {
            for (int act : new int[] {-1, 40, LOW, HIGH}) {
                due("kind " + kind + ", act " + act, x.act(0, kind, act, 0), BAD);
            }
            due("kind " + kind + ", act 0", x.act(0, kind, 0, 0), n++);
            due("kind " + kind + ", act 39", x.act(0, kind, 39, 0), n++);
        }
        due("a switch from -1", x.act(0, SWITCH, -1, 0), BAD);
        due("a switch from LOW", x.act(0, SWITCH, LOW, 0), BAD);
        due("a switch to 40", x.act(0, SWITCH, 0, 40), BAD);
        due("a switch to HIGH", x.act(0, SWITCH, 0, HIGH), BAD);
        due("a switch of 40", x.act(0, SWITCH, 40, 40), BAD);
        due("a switch of -1", x.act(0, SWITCH, -1, -1), BAD);
        due("the longest switch", x.act(0, SWITCH, 0, 39), n++);
        due("a switch of the last", x.act(0, SWITCH, 39, 39), n++);
    }

    static void p07SwitchBelow() {
        sentence(7, "b of SWITCH below a");
        ClosureFrames x = withClasses();
        due("one below", x.act(0, SWITCH, 5, 4), BAD);
        due("far below", x.act(0, SWITCH, 39, 0), BAD);
        due("below 0", x.act(0, SWITCH, 0, -1), BAD);
        due("LOW", x.act(0, SWITCH, 0, LOW), BAD);
        due("the same", x.act(0, SWITCH, 5, 5), 0);
        due("one above", x.act(0, SWITCH, 5, 6), 1);
    }

    static void p07NotLookedAt() {
        sentence(7, "(what a kind does not name is not looked at)");
        ClosureFrames x = withClasses();
        int n = 0;
        for (int kind : new int[] {INT, WIDE, NULL, POP, TWICE, ADD, ADD_WIDE, GIVE}) {
            due("kind " + kind, x.act(0, kind, LOW, HIGH), n++);
            due("kind " + kind, x.act(0, kind, HIGH, LOW), n++);
        }
        for (int kind : new int[] {LOAD, STORE, NEW, MAKE, FIELD, CALL, CAST, GO, IF, GIVE_OBJECT, THROW, MORE}) {
            due("kind " + kind, x.act(0, kind, 1, LOW), n++);
            due("kind " + kind, x.act(0, kind, 1, HIGH), n++);
        }
        due("forty", n, 40);
        for (int number : new int[] {LOW, -1, 0, 39, HIGH}) {
            ClosureFrames y = withClasses();
            y.act(0, INT, number, 39);
            y.act(0, GIVE, number, 0);
            due(number + " is not gone to", y.compute(0), 0);
            due(number + " is not looked for", y.verify(0), 0);
        }
    }

    static void p07FortyAtMost() {
        sentence(7, "ACTS (40 at most), numbered from 0");
        ClosureFrames x = withClasses();
        for (int i = 0; i < 40; i++) {
            due("its number", x.act(0, i % 20, 0, 0), i);
        }
        for (int kind = 0; kind <= 20; kind++) {
            due("one more, kind " + kind, x.act(0, kind, 0, 0), FULL);
        }
        due("another method", x.act(1, INT, 0, 0), 0);
    }

    static void p07BadAheadOfFull() {
        sentence(7, "(what a kind does not name is not looked at); FULL.");
        ClosureFrames x = withClasses();
        tell(x, 0, many(40, INT));
        due("kind", x.act(0, 21, 0, 0), BAD);
        due("place", x.act(0, LOAD, 8, 0), BAD);
        due("class", x.act(0, NEW, 6, 0), BAD);
        due("act", x.act(0, GO, 40, 0), BAD);
        due("switch", x.act(0, SWITCH, 2, 1), BAD);
        due("full", x.act(0, SWITCH, 1, 1), FULL);
    }

    static void p07NoSuchMethod() {
        sentence(7, "An ACT more: its number. BAD");
        ClosureFrames x = withClasses();
        for (int m : NO_METHODS) {
            due("act(" + m + ", 0, 0, 0)", x.act(m, INT, 0, 0), BAD);
        }
        due("the first method has none", x.told(1), 0);
        due("the last method has none", x.told(8), 0);
    }

    static void p07RefusedChangesNothing() {
        sentence(7, "What is refused changes nothing.");
        ClosureFrames x = sample();
        String before = all(x);
        x.act(0, 21, 0, 0);
        x.act(0, LOAD, 8, 0);
        x.act(0, CAST, 6, 0);
        x.act(0, IF, 40, 0);
        x.act(0, SWITCH, 3, 2);
        due("all", all(x), before);
        ClosureFrames y = withClasses();
        tell(y, 0, a(GO, 39));
        tell(y, 0, many(39, GO));
        due("compute", y.compute(0), 2);
        due("full", y.act(0, POP, 0, 0), FULL);
        due("it stays computed", y.told(31), 2);
        due("the last act is as it was", y.compute(0), 2);
    }

    static void p07Changed() {
        sentence(7, "STATE -3: not computed since the METHOD changed");
        ClosureFrames x = sample();
        due("act", x.act(0, INT, 0, 0), 7);
        isChanged("act", x);
        due("act: state", x.state(0, 0, 0), STATE);
    }

    static void p08FromBelowTo() {
        sentence(8, "BAD: from not below to");
        ClosureFrames x = withClasses();
        for (int from : new int[] {0, 1, 20, 39, 40}) {
            due("from itself " + from, x.guard(0, from, from, 0, 0), BAD);
            due("from one behind " + from, x.guard(0, from, from - 1, 0, 0), BAD);
        }
        due("HIGH to LOW", x.guard(0, HIGH, LOW, 0, 0), BAD);
        due("one act", x.guard(0, 0, 1, 0, 0), 0);
        due("the last act", x.guard(0, 39, 40, 0, 0), 1);
    }

    static void p08ZeroToForty() {
        sentence(8, "from not below to, 0 .. 40");
        ClosureFrames x = withClasses();
        due("from -1", x.guard(0, -1, 1, 0, 0), BAD);
        due("from LOW", x.guard(0, LOW, 1, 0, 0), BAD);
        due("to 41", x.guard(0, 0, 41, 0, 0), BAD);
        due("to HIGH", x.guard(0, 0, HIGH, 0, 0), BAD);
        due("LOW to HIGH", x.guard(0, LOW, HIGH, 0, 0), BAD);
        due("40 to 41", x.guard(0, 40, 41, 0, 0), BAD);
        due("0 to 40", x.guard(0, 0, 40, 0, 0), 0);
    }

    static void p08ItsAct() {
        sentence(8, "its ACT 0 .. 39");
        ClosureFrames x = withClasses();
        for (int at : new int[] {-1, 40, LOW, HIGH}) {
            due("at " + at, x.guard(0, 0, 1, at, 0), BAD);
        }
        due("at 0", x.guard(0, 0, 1, 0, 0), 0);
        due("at 39", x.guard(0, 0, 1, 39, 0), 1);
    }

    static void p08Class() {
        sentence(8, "CLASS; FULL");
        ClosureFrames x = withClasses();
        for (int c : new int[] {-1, 6, 15, 16, LOW, HIGH}) {
            due("class " + c, x.guard(0, 0, 1, 0, c), BAD);
        }
        due("the root", x.guard(0, 0, 1, 0, 0), 0);
        due("a face", x.guard(0, 0, 1, 0, 4), 1);
        due("the last class", x.guard(0, 0, 1, 0, 5), 2);
        due("a class more", x.cls(0, false), 6);
        due("that class", x.guard(0, 0, 1, 0, 6), 3);
    }

    static void p08FourAtMost() {
        sentence(8, "GUARDS (4 at most)");
        ClosureFrames x = withClasses();
        for (int i = 0; i < 4; i++) {
            due("its number", x.guard(0, i, 40, i, i), i);
        }
        due("a fifth", x.guard(0, 0, 40, 0, 0), FULL);
        due("told(11)", x.told(11), 4);
        due("another method", x.guard(1, 0, 40, 0, 0), 0);
    }

    static void p08BadAheadOfFull() {
        sentence(8, "its ACT 0 .. 39; CLASS; FULL.");
        ClosureFrames x = withClasses();
        for (int i = 0; i < 4; i++) {
            x.guard(0, 0, 1, 0, 0);
        }
        due("from", x.guard(0, 1, 1, 0, 0), BAD);
        due("to", x.guard(0, 1, 41, 0, 0), BAD);
        due("at", x.guard(0, 0, 1, 40, 0), BAD);
        due("class", x.guard(0, 0, 1, 0, 6), BAD);
        due("full", x.guard(0, 0, 1, 39, 5), FULL);
    }

    static void p08NoSuchMethod() {
        sentence(8, "A GUARD: its number. BAD");
        ClosureFrames x = withClasses();
        for (int m : NO_METHODS) {
            due("guard of " + m, x.guard(m, 0, 1, 0, 0), BAD);
        }
        due("the first method has none", x.told(11), 0);
        due("the last method has none", x.told(18), 0);
    }

    static void p08RefusedChangesNothing() {
        sentence(8, "What is refused changes nothing.");
        ClosureFrames x = sample();
        String before = all(x);
        x.guard(0, 1, 1, 0, 0);
        x.guard(0, 0, 41, 0, 0);
        x.guard(0, 0, 1, 40, 0);
        x.guard(0, 0, 1, 0, 6);
        due("all", all(x), before);
        x.guard(0, 9, 10, 0, 0);
        x.guard(0, 9, 10, 0, 0);
        x.guard(0, 9, 10, 0, 0);
        x.compute(0);
        due("full", x.guard(0, 0, 1, 39, 0), FULL);
        due("it stays computed", x.told(31), 2);
        due("the last guard is as it was", x.compute(0), 2);
    }

    static void p08Changed() {
        sentence(8, "STATE -3: not computed since the METHOD changed");
        ClosureFrames x = sample();
        due("guard", x.guard(0, 0, 1, 0, 0), 1);
        isChanged("guard", x);
        due("guard: state", x.state(0, 0, 0), STATE);
    }
}
