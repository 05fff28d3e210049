/** Promises 16 to 18: a test of its own for each sentence that names a boundary case. */
public final class LookingBoundariesTest extends TestKit {
    public static void main(String[] args) {
        runAll(LookingBoundariesTest.class);
    }

    /** Frame 0, at act 3: an INT, a WIDE, its REST, two places with NOTHING; an UNMADE and a WIDE on the stack.
     * Frame 1, at act 6: the same places, an empty stack. */
    private static ClosureFrames sample() {
        ClosureFrames x = places(5, 1, 2);
        tell(x, 0, a(NEW, 1), a(WIDE), a(GO, 3), a(POP), a(MAKE, 1), a(GO, 6), a(GO, 6));
        due("compute", x.compute(0), 2);
        return x;
    }

    private static void looksRight(String what, ClosureFrames x) {
        due(what + ": verify", x.verify(0), 0);
        due(what + ": fault", x.fault(), 0);
    }

    private static void looksWrong(String what, ClosureFrames x, int fault, int at) {
        due(what + ": verify", x.verify(0), -10 - at);
        due(what + ": fault", x.fault(), fault);
    }

    static void p16Types() {
        sentence(16, "a TYPE 0 (not on the STACK), 1, 4, 10 + c");
        ClosureFrames x = sample();
        for (int type = -2; type < 142; type++) {
            boolean told = type == 0 || type == 1 || type == 4 || (type >= 10 && type < 16);
            int was = x.frame(0, 0, 0);
            due("type " + type, x.plant(0, 0, 0, type), told ? was : BAD);
            due("the frame", x.frame(0, 0, 0), told ? type : was);
        }
        due("type LOW", x.plant(0, 0, 0, LOW), BAD);
        due("type LOW + 10", x.plant(0, 0, 0, LOW + 10), BAD);
        due("type HIGH", x.plant(0, 0, 0, HIGH), BAD);
    }

    static void p16NoTypeOfAClassThatIsNot() {
        sentence(16, "10 + c an OBJECT of CLASS c");
        ClosureFrames x = new ClosureFrames();
        tell(x, 0, a(GO, 0));
        due("compute", x.compute(0), 1);
        due("class 1 is not", x.plant(0, 0, 0, 11), BAD);
        due("a class", x.cls(0, false), 1);
        due("class 1 is", x.plant(0, 0, 0, 11), 0);
        due("class 2 is not", x.plant(0, 0, 0, 12), BAD);
        due("the frame", x.frame(0, 0, 0), 11);
    }

    static void p16WhichItWas() {
        sentence(16, "which it was. It changes FRAMES (and FORMS), not STATES.");
        ClosureFrames x = sample();
        due("nothing in the last place", x.plant(0, 0, 4, 15), 0);
        due("an object", x.plant(0, 0, 4, 4), 15);
        due("a null", x.plant(0, 0, 4, 1), 4);
        due("an unmade on the stack", x.plant(0, 0, 100, 1), 100);
        due("an int on the stack", x.plant(0, 0, 100, 10), 1);
        due("the frame", x.frame(0, 0, 4), 1);
        due("the frame's stack", x.frame(0, 0, 100), 10);
        due("the state", x.state(0, 3, 4), 0);
        due("the state's stack", x.state(0, 3, 100), 100);
        due("it has as many", x.frame(0, 0, 99), 2);
        due("the other frame", x.frame(0, 1, 4), 0);
        due("the form of the one behind it", x.form(0, 1), 22);
        due("the frames", x.told(31), 2);
    }

    static void p16NoSuchPlace() {
        sentence(16, "BAD: TYPE, a place none of 0 .. 7, 100 .. 109");
        ClosureFrames x = sample();
        for (int place : new int[] {-1, 8, 9, 98, 99, 110, LOW, HIGH, LOW + 100}) {
            due("place " + place, x.plant(0, 0, place, 1), BAD);
        }
        due("nothing is planted", x.frame(0, 0, 0), 1);
    }

    static void p16NoSuchMethod() {
        sentence(16, "100 .. 109; METHOD");
        ClosureFrames x = atBothEnds(sample());
        for (int m : NO_METHODS) {
            due("method " + m, x.plant(m, 0, 0, 4), BAD);
        }
        due("nothing is planted in the first", x.frame(0, 0, 0), 1);
        due("nothing is planted in the last", x.frame(7, 0, 0), 0);
        due("method 7", x.plant(7, 0, 0, 4), 0);
    }

    static void p16NotComputed() {
        sentence(16, "METHOD; STATE; BAD: no such FRAME");
        ClosureFrames x = sample();
        due("a method without acts", x.plant(1, 0, 0, 1), STATE);
        due("type ahead of STATE", x.plant(1, 0, 0, 2), BAD);
        due("type ahead of STATE", x.plant(1, 0, 0, 16), BAD);
        due("place ahead of STATE", x.plant(1, 0, 8, 1), BAD);
        due("place ahead of STATE", x.plant(1, 0, 99, 1), BAD);
        due("STATE ahead of no such frame", x.plant(1, 40, 0, 1), STATE);
        due("STATE ahead of a place that the method has not", x.plant(1, 0, 7, 1), STATE);
        due("STATE ahead of no such i", x.plant(1, 0, 109, 1), STATE);
        due("STATE ahead of type 0 on the stack", x.plant(1, 0, 100, 0), STATE);
        x.act(0, GO, 0, 0);
        due("changed", x.plant(0, 0, 0, 1), STATE);
        due("by a fault", byAFault().plant(0, 0, 0, 1), STATE);
    }

    static void p16NoSuchFrame() {
        sentence(16, "BAD: no such FRAME");
        ClosureFrames x = sample();
        for (int k : new int[] {-1, 2, 3, 40, LOW, HIGH}) {
            due("frame " + k, x.plant(0, k, 0, 4), BAD);
        }
        due("the last frame", x.plant(0, 1, 0, 4), 1);
        due("the first frame", x.plant(0, 0, 0, 4), 1);
    }

    static void p16APlaceThatItHasNot() {
        sentence(16, "a PLACE that the METHOD has not");
        for (int n = 1; n < 8; n++) {
            ClosureFrames x = places(n);
            rightHere("places", x, 1, a(GO, 0));
            due("the last of " + n, x.plant(0, 0, n - 1, 1), 0);
            due("behind the last of " + n, x.plant(0, 0, n, 1), BAD);
            due("place 7 of " + n, x.plant(0, 0, 7, 1), BAD);
            due("nothing is there", x.frame(0, 0, n), 0);
        }
        ClosureFrames y = places(8);
        rightHere("places", y, 1, a(GO, 0));
        due("place 7 of 8", y.plant(0, 0, 7, 1), 0);
    }

    static void p16NoSuchI() {
        sentence(16, "no such i, TYPE 0 on the STACK");
        ClosureFrames x = sample();
        due("of two", x.plant(0, 0, 102, 1), BAD);
        due("of two", x.plant(0, 0, 109, 1), BAD);
        due("of none", x.plant(0, 1, 100, 1), BAD);
        ClosureFrames y = places(4);
        tell(y, 0, many(10, INT, a(GO, 10)));
        due("compute", y.compute(0), 1);
        due("the first of ten", y.plant(0, 0, 100, 4), 1);
        due("the last of ten", y.plant(0, 0, 109, 4), 1);
        due("the last of ten", y.frame(0, 0, 109), 4);
        due("how many", y.frame(0, 0, 99), 10);
    }

    static void p16NothingOnTheStack() {
        sentence(16, "TYPE 0 on the STACK");
        ClosureFrames x = sample();
        due("an unmade", x.plant(0, 0, 100, 0), BAD);
        due("no such i", x.plant(0, 0, 109, 0), BAD);
        due("it is as it was", x.frame(0, 0, 100), 100);
        due("in a place", x.plant(0, 0, 0, 0), 1);
    }

    static void p16AWideWasThere() {
        sentence(16, "a WIDE, a REST was there");
        ClosureFrames x = sample();
        for (int type : new int[] {0, 1, 4, 10}) {
            due("a wide", x.plant(0, 0, 1, type), BAD);
            due("a rest", x.plant(0, 0, 2, type), BAD);
            due("a wide on the stack", x.plant(0, 0, 101, type), BAD);
        }
        due("the wide", x.frame(0, 0, 1), 2);
        due("the rest", x.frame(0, 0, 2), 3);
        due("on the stack", x.frame(0, 0, 101), 2);
    }

    static void p16RefusedChangesNothing() {
        sentence(16, "What is refused changes nothing.");
        ClosureFrames x = sample();
        int[] refused = {0, 0, 2, 0, 8, 1, 2, 0, 1, 0, 5, 1, 0, 102, 1, 0, 100, 0, 0, 1, 1, 0, 2, 1, 0, 101, 1};
        for (int i = 0; i < refused.length; i += 3) {
            due("plant", x.plant(0, refused[i], refused[i + 1], refused[i + 2]), BAD);
        }
        for (int k = 0; k < 2; k++) {
            int act = x.frame(0, k, 98);
            for (int place = 0; place < 8; place++) {
                due("frame " + k + ", place " + place, x.frame(0, k, place), x.state(0, act, place));
            }
            due("frame " + k + ", 99", x.frame(0, k, 99), x.state(0, act, 99));
        }
        looksRight("looked at", x);
    }

    static void p16ComputedAnew() {
        sentence(16, "LOOKING at FRAMES, as computed or told otherwise");
        ClosureFrames x = sample();
        x.plant(0, 0, 0, 0);
        x.plant(0, 0, 100, 1);
        due("compute", x.compute(0), 2);
        due("the place is as computed", x.frame(0, 0, 0), 1);
        due("the stack is as computed", x.frame(0, 0, 100), 100);
        looksRight("looked at", x);
    }

    static void p17NoSuchMethod() {
        sentence(17, "-10 less the ACT of the FAULT. BAD");
        ClosureFrames x = atBothEnds(sample());
        for (int m : NO_METHODS) {
            due("method " + m, x.verify(m), BAD);
        }
        due("method 7", x.verify(7), 0);
    }

    static void p17NotComputed() {
        sentence(17, "-10 less the ACT of the FAULT. BAD; STATE.");
        ClosureFrames x = sample();
        due("a method without acts", x.verify(1), STATE);
        tell(x, 1, a(GO, 0));
        due("not yet", x.verify(1), STATE);
        x.guard(0, 9, 10, 0, 0);
        due("changed", x.verify(0), STATE);
        x.compute(0);
        due("computed", x.verify(0), 0);
        due("by a fault", byAFault().verify(0), STATE);
    }

    static void p17AFaultChangesNoFrame() {
        sentence(17, "LOOKING at its FRAMES: 0; -10 less the ACT of the FAULT.");
        ClosureFrames x = sample();
        looksRight("as computed", x);
        x.plant(0, 1, 0, 10);
        looksWrong("told otherwise", x, UNFIT, 5);
        looksWrong("once more", x, UNFIT, 5);
        due("it stays computed", x.told(31), 2);
        due("the frame", x.frame(0, 1, 0), 10);
        due("the state", x.state(0, 6, 0), 1);
        x.plant(0, 1, 0, 1);
        looksRight("told back", x);
    }

    static void p17TheFirstAndTheLastAct() {
        sentence(17, "-10 less the ACT of the FAULT");
        ClosureFrames x = places(4, 1);
        for (int p = 0; p < 40; p++) {
            tell(x, 0, a(GO, (p + 1) % 40));
        }
        due("compute", x.compute(0), 40);
        looksRight("forty", x);
        x.plant(0, 0, 0, 10);
        looksWrong("act 0", x, UNFIT, 0);
        for (int k = 0; k < 40; k++) {
            x.plant(0, k, 0, k == 0 ? 1 : 0);
        }
        looksWrong("act 39", x, UNFIT, 39);
    }

    static void p17FitsByPlaces() {
        sentence(17, "the STATE, if there is one, has to FIT it, by PLACES and STACK");
        for (int place = 0; place < 8; place++) {
            ClosureFrames x = places(8, 1, 1, 1, 1, 1, 1, 1, 1);
            rightHere("at the beginning", x, 1, a(GO, 0));
            x.plant(0, 0, place, 4);
            looksWrong("place " + place, x, UNFIT, 0);
            x.plant(0, 0, place, 0);
            looksRight("nothing is wanted in place " + place, x);
        }
    }

    static void p17FitsByStack() {
        sentence(17, "has to FIT it, by PLACES and STACK");
        for (int i = 0; i < 10; i++) {
            ClosureFrames x = places(4);
            tell(x, 0, many(10, NULL, a(GO, 11), a(THROW)));
            due("compute", x.compute(0), 1);
            x.plant(0, 0, 100 + i, 1);
            looksWrong("an int for a null at " + i, x, UNFIT, 10);
            x.plant(0, 0, 100 + i, 10);
            looksRight("an object for a null at " + i, x);
        }
    }

    /** The fault at the act that goes, if a type goes to a frame that was told as another one; 0: none. */
    private static int faultOf(int type, int wanted) {
        ClosureFrames x = places(4, type);
        tell(x, 0, a(GO, 1), a(NULL), a(THROW));
        x.compute(0);
        x.plant(0, 0, 0, wanted);
        x.verify(0);
        return x.fault();
    }

    static void p17Fits() {
        sentence(17, "A TYPE FITS another one: it is like it; that is NOTHING; it is NULL or an OBJECT that IS it");
        for (int type : new int[] {1, 10, 12, 14}) {
            due("like it: " + type, faultOf(type, type), 0);
            due("nothing is wanted: " + type, faultOf(type, 0), 0);
            due("a null is wanted: " + type, faultOf(type, 4), UNFIT);
        }
        due("an int for an object", faultOf(1, 10), UNFIT);
        due("an object for an int", faultOf(10, 1), UNFIT);
        due("one above", faultOf(12, 11), 0);
        due("one below", faultOf(11, 12), UNFIT);
        due("one beside", faultOf(12, 13), UNFIT);
        due("the root", faultOf(15, 10), 0);
        due("a face", faultOf(15, 14), 0);
        due("a face for a class", faultOf(14, 15), UNFIT);
        due("a face for the root", faultOf(14, 10), 0);
        ClosureFrames x = places(4);
        rightHere("nothing", x, 1, a(GO, 1), a(NULL), a(THROW));
        for (int wanted : new int[] {1, 4, 10}) {
            x.plant(0, 0, 3, wanted);
            looksWrong("nothing for " + wanted, x, UNFIT, 0);
        }
    }

    static void p17NullFits() {
        sentence(17, "it is NULL or an OBJECT that IS it, that an OBJECT");
        ClosureFrames x = right("a null", 4, 1, a(NULL), a(STORE, 0), a(GO, 3), a(NULL), a(THROW));
        for (int c = 0; c < 6; c++) {
            x.plant(0, 0, 0, 10 + c);
            looksRight("a null for an object of " + c, x);
        }
        x.plant(0, 0, 0, 1);
        looksWrong("a null for an int", x, UNFIT, 2);
        ClosureFrames y = right("an unmade", 4, 1, a(NEW, 1), a(STORE, 0), a(GO, 3), a(NULL), a(THROW));
        looksRight("an unmade for itself", y);
        y.plant(0, 0, 0, 11);
        looksWrong("an unmade for an object", y, UNFIT, 2);
        y.plant(0, 0, 0, 0);
        looksRight("an unmade for nothing", y);
    }

    static void p17TheFrameFromThenOn() {
        sentence(17, "it is the FRAME from then on");
        ClosureFrames x = places(4, 1, 12);
        rightHere("a frame", x, 1, a(GO, 1), a(MORE, 0), a(LOAD, 1), a(FIELD, 2), a(GIVE));
        x.plant(0, 0, 0, 0);
        looksWrong("no int any more", x, PLACE, 1);
        x.plant(0, 0, 0, 1);
        x.plant(0, 0, 1, 11);
        looksWrong("another object", x, TYPE, 3);
        x.plant(0, 0, 1, 0);
        looksWrong("nothing to load", x, PLACE, 2);
        x.plant(0, 0, 1, 12);
        looksRight("as it was", x);
        ClosureFrames y = places(4, 1, 12);
        rightHere("a state that fits", y, 1, a(MORE, 0), a(LOAD, 1), a(FIELD, 2), a(IF, 1), a(NULL), a(THROW));
        y.plant(0, 0, 1, 11);
        looksWrong("the frame goes on, not the state", y, TYPE, 2);
    }

    static void p17NoStateNoFrame() {
        sentence(17, "8: there is none, and no FRAME");
        looksWrong("behind go", right("go", 4, 1, a(GO, 2), a(INT), a(GO, 2)), NO_FRAME, 1);
        looksWrong("behind give", right("give", 4, 0, a(INT), a(GIVE), a(INT)), NO_FRAME, 2);
        looksWrong("behind give of an object", right("give", 4, 0, a(NULL), a(GIVE_OBJECT), a(INT)), NO_FRAME, 2);
        looksWrong("behind throw", right("throw", 4, 0, a(NULL), a(THROW), a(INT)), NO_FRAME, 2);
        looksWrong("behind switch", right("switch", 4, 1, a(INT), a(SWITCH, 3, 3), a(INT), a(GO, 3)), NO_FRAME, 2);
        ClosureFrames x = right("a fault ahead of it", 4, 1, a(GO, 2), a(INT), a(GO, 2));
        x.plant(0, 0, 0, 1);
        looksWrong("a fault ahead of it", x, UNFIT, 0);
    }

    /** An act that ends a way, behind a state that does not fit the frame at the act after it. */
    private static void noStateBehind(String what, int ahead, int[] ender, int[]... then) {
        ClosureFrames x = places(4, 1, 1);
        tell(x, 0, a(LOAD, 0), a(IF, 6), a(NULL), a(STORE, 1), a(ahead), ender, a(LOAD, 1), a(GIVE));
        tell(x, 0, then);
        due(what + ": compute", x.compute(0), then.length == 0 ? 1 : 2);
        looksRight(what, x);
    }

    static void p17NoStateBehind() {
        sentence(17, "(Behind GO, SWITCH, GIVE, THROW there is no STATE.)");
        noStateBehind("go", NULL, a(GO, 8), a(THROW));
        noStateBehind("switch", INT, a(SWITCH, 8, 8), a(NULL), a(THROW));
        noStateBehind("give", INT, a(GIVE));
        noStateBehind("give of an object", NULL, a(GIVE_OBJECT));
        noStateBehind("throw", NULL, a(THROW));
    }

    static void p17Guards() {
        sentence(17, "Then the GUARDS that hold the ACT (their STATE, as above, has to FIT the FRAME there: 9");
        ClosureFrames x = places(4, 1);
        x.guard(0, 1, 3, 4, 2);
        rightHere("a guard", x, 1, a(MORE, 0), a(MORE, 0), a(LOAD, 0), a(GIVE), a(THROW, 2));
        looksRight("as computed", x);
        x.plant(0, 0, 100, 11);
        looksWrong("an object above is no 2 to throw", x, TYPE, 4);
        x.plant(0, 0, 100, 13);
        looksWrong("not the guard's object", x, UNFIT, 1);
        x.plant(0, 0, 100, 12);
        x.plant(0, 0, 3, 1);
        looksWrong("not what is in a place", x, UNFIT, 1);
        ClosureFrames z = places(4);
        z.guard(0, 0, 1, 1, 1);
        z.guard(0, 0, 1, 2, 2);
        rightHere("two guards", z, 3, a(GO, 0), a(THROW, 1), a(THROW, 1));
        looksRight("two guards", z);
        z.plant(0, 2, 100, 13);
        looksWrong("the second guard", z, UNFIT, 0);
        ClosureFrames y = places(4);
        y.guard(0, 2, 3, 4, 0);
        rightHere("an unmade", y, 1, a(NEW, 1), a(STORE, 0), a(INT), a(GIVE), a(THROW));
        looksRight("nothing where there is an unmade", y);
    }

    static void p17GuardsAheadOfTheAct() {
        sentence(17, "then the ACT as in 3 (FAULTS 1, 2, 3, 7)");
        ClosureFrames x = places(4, 1);
        x.guard(0, 1, 2, 3, 4);
        rightHere("a guard", x, 2, a(GO, 1), a(LOAD, 0), a(GIVE), a(THROW, 4));
        x.plant(0, 0, 0, 0);
        looksWrong("the guard first", x, UNFIT, 1);
        x.plant(0, 1, 0, 0);
        looksWrong("then the act", x, PLACE, 1);
    }

    static void p17WhereItGoes() {
        sentence(17, "what goes on likewise (5, then 6, then 8 or 9)");
        ClosureFrames x = places(4, 1);
        rightHere("a switch", x, 3, a(LOAD, 0), a(SWITCH, 2, 4), a(GO, 2), a(GO, 3), a(GO, 4));
        looksRight("as computed", x);
        for (int k = 0; k < 3; k++) {
            x.plant(0, k, 0, 10);
            looksWrong("frame " + k, x, UNFIT, 1);
            x.plant(0, k, 0, 1);
        }
        ClosureFrames y = places(4, 1, 12);
        rightHere("back", y, 1, a(MORE, 0), a(LOAD, 0), a(IF, 0), a(NULL), a(STORE, 1), a(GO, 0));
        y.plant(0, 0, 1, 11);
        looksRight("a wider frame", y);
        y.plant(0, 0, 0, 0);
        looksWrong("the act ahead of where it goes", y, PLACE, 0);
    }

    static void p17TheNextAct() {
        sentence(17, "to the next ACT at that one");
        ClosureFrames x = right("the next one", 4, 1, a(INT), a(STORE, 0), a(MORE, 0), a(GO, 2));
        x.plant(0, 0, 0, 4);
        looksWrong("the next one", x, UNFIT, 2);
        ClosureFrames y = places(4, 1);
        rightHere("of an if", y, 2, a(LOAD, 0), a(IF, 3), a(GO, 3), a(LOAD, 0), a(IF, 5), a(INT), a(GIVE));
        y.plant(0, 1, 0, 4);
        looksWrong("where an if goes ahead of its next one", y, UNFIT, 4);
    }

    static void p18Classes() {
        sentence(18, "0 CLASSES");
        ClosureFrames x = new ClosureFrames();
        for (int count = 1; count <= 16; count++) {
            due("told(0)", x.told(0), count);
            x.cls(0, false);
        }
        due("told(0)", x.told(0), 16);
    }

    static void p18OfAMethod() {
        sentence(18, "of METHOD m: 1 + m ACTS, 11 + m GUARDS, 21 + m PLACES, 31 + m FRAMES");
        ClosureFrames x = withClasses();
        for (int m = 0; m < 8; m++) {
            x.clear(m, 8 - m);
            for (int i = 0; i < m % 5; i++) {
                x.guard(m, 39, 40, 0, 0);
            }
            for (int p = 0; p <= m; p++) {
                x.act(m, GO, (p + 1) % (m + 1), 0);
            }
            x.compute(m);
        }
        for (int m = 0; m < 8; m++) {
            due("acts of " + m, x.told(1 + m), m + 1);
            due("guards of " + m, x.told(11 + m), m % 5);
            due("places of " + m, x.told(21 + m), 8 - m);
            due("frames of " + m, x.told(31 + m), m + 1);
        }
    }

    static void p18AtMost() {
        sentence(18, "ACTS (40 at most), numbered from 0, GUARDS (4 at most)");
        ClosureFrames x = withClasses();
        for (int p = 0; p < 41; p++) {
            x.act(7, GO, 0, 0);
            due("acts", x.told(8), Math.min(p + 1, 40));
        }
        for (int i = 0; i < 5; i++) {
            x.guard(7, 0, 1, 0, 0);
            due("guards", x.told(18), Math.min(i + 1, 4));
        }
        x.clear(7, 1);
        due("acts", x.told(8), 0);
        due("guards", x.told(18), 0);
    }

    static void p18NotComputed() {
        sentence(18, "31 + m FRAMES (NONE: not computed)");
        ClosureFrames x = new ClosureFrames();
        for (int m = 0; m < 8; m++) {
            due("a new method", x.told(31 + m), NONE);
        }
        tell(x, 7, a(INT), a(GIVE));
        due("not yet", x.told(38), NONE);
        x.compute(7);
        due("computed, no frames", x.told(38), 0);
        due("another one", x.told(37), NONE);
        x.act(7, GO, 2, 0);
        due("changed", x.told(38), NONE);
        due("by a fault", byAFault().told(31), NONE);
    }

    static void p18NoSuch() {
        sentence(18, "(NONE: not computed). BAD.");
        ClosureFrames x = new ClosureFrames();
        for (int what = -3; what < 60; what++) {
            boolean told = what == 0 || (what > 0 && what < 40 && what % 10 >= 1 && what % 10 <= 8);
            due("told(" + what + ")", x.told(what) == BAD ? 1 : 0, told ? 0 : 1);
        }
        due("told(LOW)", x.told(LOW), BAD);
        due("told(LOW + 1)", x.told(LOW + 1), BAD);
        due("told(HIGH)", x.told(HIGH), BAD);
    }
}
