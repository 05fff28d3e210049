/** Promises 9 and 10: a test of its own for each sentence that names a boundary case. */
public final class ComputingBoundariesTest extends TestKit {
    private static final int[] TAKERS = {STORE, POP, TWICE, ADD, ADD_WIDE, MAKE, FIELD, CALL, CAST, IF, SWITCH, GIVE,
        GIVE_OBJECT, THROW};

    public static void main(String[] args) {
        runAll(ComputingBoundariesTest.class);
    }

    private static void endless(String what, ClosureFrames x, int[]... acts) {
        tell(x, 0, acts);
        int p = x.told(1);
        rightHere(what, x, 1, a(GO, p));
    }

    static void p09NoSuchMethod() {
        sentence(9, "-10 less the ACT of its FAULT. BAD");
        ClosureFrames x = withClasses();
        tell(x, 0, a(GO, 0));
        tell(x, 7, a(GO, 0));
        for (int m : NO_METHODS) {
            due("compute(" + m + ")", x.compute(m), BAD);
        }
        due("the first method was not computed", x.told(31), NONE);
        due("the last method was not computed", x.told(38), NONE);
        due("the first method", x.compute(0), 1);
        due("the last method", x.compute(7), 1);
    }

    static void p09NoActs() {
        sentence(9, "BAD: also no ACTS");
        ClosureFrames x = withClasses();
        due("a new method", x.compute(0), BAD);
        x.argument(0, 1);
        x.guard(0, 0, 40, 0, 0);
        due("an argument and a guard", x.compute(0), BAD);
        due("fault", x.fault(), 0);
        due("told(31)", x.told(31), NONE);
        tell(x, 1, a(GO, 0));
        due("one act", x.compute(1), 1);
        x.clear(1, 4);
        due("cleared", x.compute(1), BAD);
    }

    static void p09HowManyFrames() {
        sentence(9, "How many FRAMES a METHOD needs");
        right("none", 1, 0, a(INT), a(GIVE));
        right("one", 1, 1, a(GO, 0));
        ClosureFrames x = withClasses();
        for (int p = 0; p < 40; p++) {
            tell(x, 0, a(GO, (p + 1) % 40));
        }
        due("one at each of forty", x.compute(0), 40);
        due("told(31)", x.told(31), 40);
        due("the last one", x.frame(0, 39, 98), 39);
    }

    static void p09FramesOfActsWithAState() {
        sentence(9, "FRAMES are at those ACTS to which a GO, IF, SWITCH, GUARD of an ACT that has a STATE goes");
        ClosureFrames x = withClasses();
        x.guard(0, 2, 3, 0, 0);
        rightHere("go, if, switch, guard without a state", x, 0, a(INT), a(GIVE), a(GO, 0), a(IF, 0),
                a(SWITCH, 0, 1));
        right("the next one of an if has none", 4, 1, a(INT), a(IF, 4), a(INT), a(GIVE), a(GO, 4));
        right("the next one of a go has one", 4, 1, a(GO, 1), a(INT), a(GIVE));
    }

    static void p09ActOfTheFault() {
        sentence(9, "-10 less the ACT of its FAULT");
        faulty("the first act", 4, EMPTY, 0, a(POP));
        faulty("the last act", 4, EMPTY, 39, lastOfForty(POP));
    }

    /** Act 0 goes to act 38, which goes on to act 39. */
    private static int[][] lastOfForty(int kind) {
        int[][] all = many(38, GO, a(MORE, 0), a(kind));
        all[0] = a(INT);
        all[1] = a(STORE, 0);
        all[2] = a(GO, 38);
        return all;
    }

    static void p09Beginning() {
        sentence(9, "It begins with the ARGUMENTS in the first PLACES, NOTHING in others, an empty STACK.");
        ClosureFrames x = places(8, 1, 15);
        rightHere("two arguments", x, 1, a(GO, 0));
        statesAre("two arguments", x, 0, 1, 15, 0, 0, 0, 0, 0, 0);
        due("the stack", x.state(0, 0, 99), 0);
        ClosureFrames y = places(1);
        rightHere("no argument", y, 1, a(GO, 0));
        statesAre("no argument", y, 0, 0, 0, 0, 0, 0, 0, 0, 0);
    }

    static void p09TheLeastIsWorked() {
        sentence(9, "As long as an ACT is due, the least one, p, is worked");
        faulty("3 ahead of 4", 4, EMPTY, 3, a(INT), a(IF, 4), a(GO, 3), a(POP), a(POP));
        faulty("back to 1 ahead of 5", 4, EMPTY, 1, a(GO, 2), a(POP), a(INT), a(IF, 5), a(GO, 1), a(POP));
    }

    static void p09GuardsAsTheyWereTold() {
        sentence(9, "first for each GUARD that holds it, as they were told");
        ClosureFrames x = withClasses();
        x.guard(0, 0, 1, 9, 0);
        x.guard(0, 0, 1, 0, 0);
        faultyHere("to no act, then to another height", x, END, 0, a(POP));
        ClosureFrames y = withClasses();
        y.guard(0, 0, 1, 0, 0);
        y.guard(0, 0, 1, 9, 0);
        faultyHere("to another height, then to no act", y, HEIGHT, 0, a(POP));
        ClosureFrames z = withClasses();
        z.guard(0, 0, 1, 1, 0);
        z.guard(0, 0, 1, 1, 0);
        z.guard(0, 0, 1, 1, 0);
        z.guard(0, 0, 1, 9, 0);
        faultyHere("to no act, by the last of four", z, END, 0, a(POP), a(THROW));
        ClosureFrames w = withClasses();
        w.guard(0, 0, 1, 1, 0);
        faultyHere("the act itself behind them", w, EMPTY, 0, a(POP), a(THROW));
        ClosureFrames v = withClasses();
        for (int i = 0; i < 4; i++) {
            v.guard(0, 0, 1, 1 + i, i);
        }
        rightHere("each of four", v, 5, a(GO, 0), a(THROW, 0), a(THROW, 1), a(THROW, 2), a(THROW, 3));
    }

    static void p09AsItWasWhenTakenUp() {
        sentence(9, "its STATE (as it was when p is taken up) goes to the GUARD's ACT");
        ClosureFrames x = withClasses();
        x.guard(0, 3, 4, 3, 1);
        faultyHere("the guard takes the unmade out of the act's own state", x, UNMADE, 3, a(NEW, 1), a(STORE, 0),
                a(NULL), a(GO, 3));
        ClosureFrames y = places(4, 1);
        y.guard(0, 1, 2, 3, 1);
        rightHere("what the act puts", y, 2, a(NULL), a(STORE, 0), a(GO, 4), a(THROW, 1), a(INT), a(GIVE));
        due("what the act puts is not in it", y.state(0, 3, 0), 1);
        due("what the act puts goes to the next one", y.state(0, 2, 0), 4);
    }

    static void p09OneObjectAsStack() {
        sentence(9, "with one OBJECT of the GUARD's CLASS as STACK");
        ClosureFrames x = withClasses();
        x.guard(0, 10, 11, 11, 5);
        tell(x, 0, many(9, INT, a(NULL), a(GO, 10), a(THROW, 5)));
        due("compute", x.compute(0), 2);
        due("of ten one is left", x.state(0, 11, 99), 1);
        due("the object", x.state(0, 11, 100), 15);
        ClosureFrames y = withClasses();
        y.guard(0, 0, 1, 1, 4);
        rightHere("of none", y, 2, a(GO, 0), a(THROW, 4));
        due("of none one comes", y.state(0, 1, 99), 1);
        due("a face", y.state(0, 1, 100), 14);
    }

    static void p09NothingWhereUnmade() {
        sentence(9, "and NOTHING where there is an UNMADE");
        ClosureFrames x = places(8);
        x.guard(0, 6, 7, 8, 0);
        rightHere("in the first and the last place", x, 1, a(NEW, 1), a(STORE, 0), a(NEW, 1), a(STORE, 7), a(INT),
                a(STORE, 3), a(INT), a(GIVE), a(THROW));
        statesAre("ahead of the act", x, 6, 100, 0, 0, 1, 0, 0, 0, 102);
        statesAre("where the guard goes on", x, 8, 0, 0, 0, 1, 0, 0, 0, 0);
    }

    static void p09GuardHolds() {
        sentence(9, "A GUARD holds ACTS from one up to ahead of another");
        for (int p = 0; p < 5; p++) {
            ClosureFrames x = withClasses();
            x.guard(0, p, 40, 39, 0);
            faultyHere("the first that it holds", x, END, p, a(INT), a(POP), a(INT), a(POP), a(GO, 4));
        }
        ClosureFrames x = withClasses();
        x.guard(0, 1, 3, 5, 0);
        rightHere("1 to 3", x, 2, a(INT), a(POP), a(INT), a(POP), a(GO, 4), a(THROW));
        due("1 and 2", x.shared(0, 5), 2);
        ClosureFrames none = withClasses();
        none.guard(0, 0, 1, 39, 0);
        none.guard(0, 3, 40, 39, 0);
        faultyHere("0 alone", none, END, 0, a(GO, 1), a(INT), a(GIVE));
        none.clear(0, 4);
        none.guard(0, 3, 40, 39, 0);
        rightHere("none that there is", none, 1, a(GO, 1), a(INT), a(GIVE));
        ClosureFrames first = withClasses();
        first.guard(0, 0, 1, 39, 0);
        faultyHere("the first act", first, END, 0, a(GO, 0));
        ClosureFrames last = withClasses();
        last.guard(0, 39, 40, 0, 0);
        faultyHere("the last act", last, HEIGHT, 39, lastOfForty(GO));
    }

    static void p09DueIfChanged() {
        sentence(9, "Else both are JOINED: if its STATE changes by that, the ACT is due.");
        ClosureFrames x = places(4, 1, 12);
        rightHere("what comes back goes round", x, 1, a(LOAD, 1), a(STORE, 2), a(NULL), a(CAST, 3), a(STORE, 1),
                a(LOAD, 0), a(IF, 0), a(LOAD, 2), a(GIVE_OBJECT, 1));
        statesAre("round", x, 0, 1, 11, 0, 0);
        statesAre("and on", x, 7, 1, 13, 11, 0);
        faultyHere("a fault at the second time alone", places(4, 1), PLACE, 0, a(MORE, 0), a(NULL), a(STORE, 0),
                a(GO, 0));
        faultyHere("the stack alone", places(4, 1), TYPE, 2, a(NULL), a(MORE, 0), a(FIELD, 2), a(IF, 7), a(NULL),
                a(CAST, 3), a(GO, 1), a(GO, 7));
        ClosureFrames y = places(4, 1);
        rightHere("what does not change", y, 1, a(MORE, 0), a(GO, 0));
    }

    static void p09Empty() {
        sentence(9, "1 EMPTY: there is not what is wanted on the STACK.");
        for (int kind : TAKERS) {
            faulty("kind " + kind, 4, EMPTY, 0, a(kind));
        }
        faulty("one int of two", 4, EMPTY, 1, a(INT), a(ADD));
        faulty("one wide of two", 4, EMPTY, 1, a(WIDE), a(ADD_WIDE));
        faulty("the int alone", 4, EMPTY, 1, a(INT), a(CALL));
        faulty("emptied", 4, EMPTY, 2, a(INT), a(POP), a(POP));
        endless("just enough", places(4), a(INT), a(INT), a(ADD), a(POP), a(WIDE), a(WIDE), a(ADD_WIDE), a(POP),
                a(NULL), a(INT), a(CALL), a(FIELD), a(STORE, 0), a(NULL), a(CAST), a(TWICE), a(POP), a(POP));
    }

    static void p09Type() {
        sentence(9, "2 TYPE: it is another one");
        for (int kind : new int[] {ADD, IF, SWITCH, GIVE, CALL}) {
            faulty("a wide for kind " + kind, 4, TYPE, 2, a(NULL), a(WIDE), a(kind));
            faulty("a null for kind " + kind, 4, TYPE, 2, a(INT), a(NULL), a(kind));
        }
        for (int kind : new int[] {ADD_WIDE, MAKE, FIELD, CAST, GIVE_OBJECT, THROW}) {
            faulty("an int for kind " + kind, 4, TYPE, 2, a(WIDE), a(INT), a(kind));
        }
        for (int kind : new int[] {FIELD, CAST, GIVE_OBJECT, THROW, ADD_WIDE, ADD}) {
            faulty("an unmade for kind " + kind, 4, TYPE, 1, a(NEW), a(kind));
        }
        faulty("another second int", 4, TYPE, 2, a(WIDE), a(INT), a(ADD));
        faulty("another second wide", 4, TYPE, 2, a(INT), a(WIDE), a(ADD_WIDE));
        faulty("another second of a call", 4, TYPE, 2, a(NEW), a(INT), a(CALL));
        faulty("null is not unmade", 4, TYPE, 1, a(NULL), a(MAKE));
    }

    static void p09ObjectThatIs() {
        sentence(9, "FIELD c: an OBJECT that IS c, or NULL, gives an INT");
        for (int kind : new int[] {FIELD, GIVE_OBJECT, THROW}) {
            faulty("one above, kind " + kind, 4, TYPE, 2, a(NULL), a(CAST, 1), a(kind, 2));
            faulty("one beside, kind " + kind, 4, TYPE, 2, a(NULL), a(CAST, 3), a(kind, 2));
            faulty("a face, kind " + kind, 4, TYPE, 2, a(NULL), a(CAST, 4), a(kind, 5));
            faulty("the root, kind " + kind, 4, TYPE, 2, a(NULL), a(CAST, 0), a(kind, 5));
        }
        faulty("one above, of a call", 4, TYPE, 3, a(NULL), a(CAST, 1), a(INT), a(CALL, 2));
        endless("the same, one below, a face, the root, null", places(4), a(NULL), a(CAST, 2), a(FIELD, 2), a(NULL),
                a(CAST, 2), a(FIELD, 1), a(NULL), a(CAST, 2), a(FIELD, 4), a(NULL), a(CAST, 4), a(FIELD, 0), a(NULL),
                a(FIELD, 3));
    }

    static void p09CallAndCast() {
        sentence(9, "likewise: an OBJECT of c. 13 CAST c: an OBJECT or NULL: an OBJECT of c");
        for (int c = 0; c < 6; c++) {
            ClosureFrames x = places(4);
            endless("class " + c, x, a(NULL), a(INT), a(CALL, c), a(NULL), a(CAST, c), a(NULL), a(CAST, 5),
                    a(CAST, c));
            due("a call of null", x.state(0, 3, 100), 10 + c);
            due("a cast of null", x.state(0, 5, 101), 10 + c);
            due("a cast of an object", x.state(0, 8, 102), 10 + c);
        }
        ClosureFrames y = places(4);
        endless("a call of one below", y, a(NULL), a(CAST, 2), a(INT), a(CALL, 1));
        due("is of the class above", y.state(0, 4, 100), 11);
    }

    static void p09Switch() {
        sentence(9, "on at ACT a (to b, one of these)");
        ClosureFrames x = right("one", 4, 1, a(INT), a(SWITCH, 3, 3), a(GO, 2), a(GO, 3), a(GO, 4));
        due("it alone", x.frame(0, 0, 98), 3);
        due("none ahead of it", x.state(0, 2, 0), NONE);
        due("none behind it", x.state(0, 4, 0), NONE);
        ClosureFrames y = right("all but two", 4, 3, a(INT), a(SWITCH, 2, 4), a(GO, 2), a(GO, 3), a(GO, 4));
        due("the first", y.frame(0, 0, 98), 2);
        due("the last", y.frame(0, 2, 98), 4);
    }

    static void p09MadeOfThisClass() {
        sentence(9, "an UNMADE goes, which a NEW of this CLASS made");
        faulty("one below", 4, TYPE, 1, a(NEW, 2), a(MAKE, 1));
        faulty("one above", 4, TYPE, 1, a(NEW, 1), a(MAKE, 2));
        faulty("the root", 4, TYPE, 1, a(NEW, 1), a(MAKE, 0));
        faulty("a second time", 4, TYPE, 3, a(NEW, 1), a(TWICE), a(MAKE, 1), a(MAKE, 1));
        endless("of this class", places(4), a(NEW, 1), a(MAKE, 1), a(NEW, 4), a(MAKE, 4));
    }

    static void p09AllUnmadeByThatAct() {
        sentence(9, "all UNMADE by that ACT, in PLACES and on the STACK, are OBJECTS of it then");
        ClosureFrames x = places(8);
        rightHere("in the first and the last", x, 0, a(NEW, 2), a(TWICE), a(STORE, 0), a(TWICE), a(STORE, 7),
                a(INT), a(NEW, 2), a(TWICE), a(STORE, 3), a(WIDE), a(LOAD, 0), a(TWICE), a(MAKE, 2), a(THROW, 2));
        statesAre("behind it", x, 13, 12, 0, 0, 106, 0, 0, 0, 12);
        int[] stack = {12, 1, 106, 2, 12};
        due("the stack", x.state(0, 13, 99), stack.length);
        for (int i = 0; i < stack.length; i++) {
            due("on the stack, " + i, x.state(0, 13, 100 + i), stack[i]);
        }
    }

    static void p09JoinedToNothing() {
        sentence(9, "(of JOINED STACKS: they JOIN to NOTHING)");
        int[] comes = {INT, WIDE, NULL, NEW};
        for (int one : comes) {
            for (int other : comes) {
                ClosureFrames x = places(4, 1);
                tell(x, 0, a(LOAD, 0), a(IF, 4), a(one), a(GO, 5), a(other), a(GO, 5));
                // Unmade by two acts are not alike.
                boolean alike = one == other && one != NEW;
                due(one + " and " + other + ": compute", x.compute(0), alike ? 2 : -14);
                due(one + " and " + other + ": fault", x.fault(), alike ? 0 : TYPE);
            }
        }
    }

    static void p09JoinedObjects() {
        sentence(9, "NULL and an OBJECT that OBJECT; two OBJECTS that of their CLASSES; else NOTHING");
        ClosureFrames x = places(4, 1);
        rightHere("on the stack", x, 2, a(LOAD, 0), a(IF, 6), a(NULL), a(NULL), a(CAST, 2), a(GO, 10), a(NULL),
                a(CAST, 5), a(NULL), a(CAST, 3), a(GO, 10));
        due("null and an object", x.state(0, 10, 100), 15);
        due("two objects", x.state(0, 10, 101), 11);
        ClosureFrames y = places(8, 1, 12, 12, 1, 2);
        rightHere("in places", y, 2, a(LOAD, 0), a(IF, 3), a(GO, 12), a(NULL), a(STORE, 1), a(NULL), a(CAST, 3),
                a(STORE, 2), a(NULL), a(STORE, 3), a(INT), a(STORE, 4), a(GO, 12));
        statesAre("in places", y, 12, 1, 12, 11, 0, 0, 0, 0, 0);
    }

    static void p09Deep() {
        sentence(9, "3 DEEP: more than 10 on the STACK");
        for (int kind : new int[] {INT, NULL, NEW, TWICE, LOAD}) {
            endless("ten, kind " + kind, places(4, 1), many(9, INT, a(kind), a(POP)));
            faultyHere("eleven, kind " + kind, places(4, 1), DEEP, 10, many(10, INT, a(kind)));
        }
        endless("what is wanted goes first", places(4), many(8, INT, a(NULL), a(INT), a(CALL), a(INT), a(POP),
                a(CAST), a(INT), a(POP), a(FIELD), a(INT), a(ADD), a(ADD)));
    }

    static void p09WideCountsTwo() {
        sentence(9, "on the STACK it is one, but counts 2 of 10 that it may have");
        for (int kind : new int[] {WIDE, LOAD}) {
            endless("eight and a wide, kind " + kind, places(4, 2), many(8, INT, a(kind)));
            faultyHere("nine and a wide, kind " + kind, places(4, 2), DEEP, 9, many(9, INT, a(kind)));
            faultyHere("ten and a wide, kind " + kind, places(4, 2), DEEP, 10, many(10, INT, a(kind)));
        }
        ClosureFrames x = places(4);
        endless("five wides", x, many(4, WIDE, a(TWICE)));
        due("are five", x.state(0, 5, 99), 5);
        due("are ten", x.maximum(0, 0), 10);
        faulty("a sixth", 4, DEEP, 5, many(5, WIDE, a(TWICE)));
        faulty("five wides and an int", 4, DEEP, 5, many(5, WIDE, a(INT)));
        endless("five wides are added", places(4), many(5, WIDE, a(ADD_WIDE), a(WIDE), a(ADD_WIDE)));
    }

    static void p09Height() {
        sentence(9, "4 HEIGHT: STACKS of unlike lengths go to one ACT.");
        faulty("none and one", 4, HEIGHT, 2, a(INT), a(IF, 3), a(INT), a(GO, 3));
        faulty("one and none", 4, HEIGHT, 3, a(INT), a(INT), a(IF, 4), a(POP), a(GO, 4));
        int[][] ten = many(10, INT, a(IF, 13), a(INT), a(POP), a(GO, 13));
        right("nine and nine", 4, 1, ten);
        ten[12] = a(GO, 13);
        faulty("nine and ten", 4, HEIGHT, 12, ten);
        ClosureFrames x = withClasses();
        x.guard(0, 0, 1, 1, 0);
        faultyHere("a guard's one and none", x, HEIGHT, 0, a(GO, 1), a(GO, 1));
        faulty("none at the beginning", 4, HEIGHT, 1, a(INT), a(GO, 0));
    }

    static void p09HeightOfWides() {
        sentence(9, "a WIDE in PLACE x has a REST in x + 1, on the STACK it is one");
        ClosureFrames x = places(4, 1);
        faultyHere("a wide and two ints", x, HEIGHT, 5, a(LOAD, 0), a(IF, 4), a(WIDE), a(GO, 6), a(INT), a(INT),
                a(GO, 6));
        ClosureFrames y = places(4, 1);
        faultyHere("a wide and an int are as long", y, TYPE, 4, a(LOAD, 0), a(IF, 4), a(WIDE), a(GO, 5), a(INT),
                a(GO, 5));
    }

    static void p09End() {
        sentence(9, "5 END: it goes to an ACT that there is not.");
        faulty("behind one act", 4, END, 0, a(INT));
        faulty("behind forty", 4, END, 39, lastOfForty(MORE));
        faulty("the next of an if", 4, END, 1, a(INT), a(IF, 0));
        faulty("go to one behind the last", 4, END, 0, a(GO, 1));
        faulty("go to 39", 4, END, 0, a(GO, 39));
        faulty("if", 4, END, 1, a(INT), a(IF, 3), a(GO, 2));
        faulty("the last of a switch", 4, END, 1, a(INT), a(SWITCH, 2, 3), a(GO, 2));
        ClosureFrames x = withClasses();
        x.guard(0, 0, 40, 1, 0);
        faultyHere("guard", x, END, 0, a(GO, 0));
        right("go to the last", 4, 1, a(GO, 1), a(INT), a(GIVE));
        right("no act behind give", 4, 0, a(INT), a(GIVE));
        right("no act behind give of an object", 4, 0, a(NULL), a(GIVE_OBJECT));
        right("no act behind throw", 4, 0, a(NULL), a(THROW));
        right("no act behind switch", 4, 1, a(GO, 2), a(GO, 3), a(INT), a(SWITCH, 2, 2));
    }

    static void p09UnmadeGoesBack() {
        sentence(9, "6 UNMADE: a STATE with an UNMADE goes (not by a GUARD) to ACT p or one ahead of it.");
        faulty("to p", 4, UNMADE, 1, a(NEW, 1), a(GO, 1));
        faulty("to one ahead of it", 4, UNMADE, 1, a(NEW, 1), a(GO, 0));
        faulty("by an if", 4, UNMADE, 2, a(NEW, 1), a(INT), a(IF, 2), a(GO, 3));
        faulty("by a switch", 4, UNMADE, 2, a(NEW, 1), a(INT), a(SWITCH, 2, 3), a(GO, 3));
        faulty("in the last place", 8, UNMADE, 2, a(NEW, 1), a(STORE, 7), a(GO, 2));
        faulty("first on the stack", 4, UNMADE, 2, a(NEW, 1), a(INT), a(GO, 0));
        right("to the next one", 4, 1, a(NEW, 1), a(GO, 2), a(MAKE, 1), a(INT), a(GIVE));
        right("made", 4, 1, a(NEW, 1), a(MAKE, 1), a(GO, 0));
        right("popped", 4, 1, a(NEW, 1), a(POP), a(GO, 0));
    }

    static void p09UnmadeByAGuard() {
        sentence(9, "(not by a GUARD)");
        ClosureFrames x = withClasses();
        x.guard(0, 2, 5, 1, 0);
        rightHere("to one ahead", x, 1, a(NULL), a(POP), a(NEW, 1), a(STORE, 0), a(INT), a(GIVE));
        due("to one ahead", x.state(0, 1, 0), 0);
        ClosureFrames y = withClasses();
        y.guard(0, 3, 4, 3, 0);
        rightHere("to p", y, 1, a(NEW, 1), a(STORE, 0), a(NULL), a(POP), a(INT), a(GIVE));
        due("to p", y.state(0, 3, 0), 0);
    }

    static void p09NoSuchPlace() {
        sentence(9, "7 PLACE: there is no such PLACE");
        for (int n = 1; n < 8; n++) {
            faulty("load " + n, n, PLACE, 0, a(LOAD, n));
            faulty("store " + n, n, PLACE, 1, a(INT), a(STORE, n));
            faulty("more " + n, n, PLACE, 0, a(MORE, n));
            faulty("store 7", n, PLACE, 1, a(INT), a(STORE, 7));
        }
        for (int n = 1; n <= 8; n++) {
            endless("the last place", places(n), a(INT), a(STORE, n - 1), a(MORE, n - 1), a(LOAD, n - 1));
        }
    }

    static void p09NoPlaceBehind() {
        sentence(9, "(of a WIDE: none behind it)");
        for (int n = 1; n <= 8; n++) {
            faulty("in the last place", n, PLACE, 1, a(WIDE), a(STORE, n - 1));
        }
        for (int n = 2; n <= 8; n++) {
            endless("in the one ahead of it", places(n), a(WIDE), a(STORE, n - 2), a(LOAD, n - 2));
        }
    }

    static void p09LoadNothing() {
        sentence(9, "LOAD: NOTHING or a REST is in it");
        faulty("nothing", 4, PLACE, 0, a(LOAD, 0));
        faulty("nothing in the last place", 4, PLACE, 0, a(LOAD, 3));
        faultyHere("a rest", places(4, 2), PLACE, 0, a(LOAD, 1));
        faultyHere("a wide that was made nothing", places(4, 2), PLACE, 2, a(INT), a(STORE, 1), a(LOAD, 0));
        faultyHere("a rest that was made nothing", places(4, 2), PLACE, 2, a(INT), a(STORE, 0), a(LOAD, 1));
        endless("all others", places(8, 1, 2, 12), a(LOAD, 0), a(LOAD, 1), a(LOAD, 3), a(NULL), a(STORE, 4),
                a(LOAD, 4));
        faulty("an unmade comes", 4, TYPE, 3, a(NEW, 1), a(STORE, 0), a(LOAD, 0), a(FIELD, 1));
    }

    static void p09MoreOfNoInt() {
        sentence(9, "MORE: no INT");
        faultyHere("nothing", places(4), PLACE, 0, a(MORE, 0));
        faultyHere("a wide", places(4, 2), PLACE, 0, a(MORE, 0));
        faultyHere("a rest", places(4, 2), PLACE, 0, a(MORE, 1));
        faultyHere("an object", places(4, 10), PLACE, 0, a(MORE, 0));
        faulty("a null", 4, PLACE, 2, a(NULL), a(STORE, 0), a(MORE, 0));
        faulty("an unmade", 4, PLACE, 2, a(NEW), a(STORE, 0), a(MORE, 0));
        endless("an int", places(4, 1), a(MORE, 0));
    }

    static void p09NoPlaceAheadOfAll() {
        sentence(9, "what it does from left to right as told, a PLACE that there is not ahead of all");
        faulty("store of an empty stack", 4, PLACE, 0, a(STORE, 4));
        faulty("a place that there is", 4, EMPTY, 0, a(STORE, 3));
        faulty("load on a full stack", 4, PLACE, 10, many(10, INT, a(LOAD, 4)));
    }

    static void p09LeftToRight() {
        sentence(9, "what is wanted of the STACK goes, the last one first");
        faulty("another ahead of none", 4, TYPE, 1, a(WIDE), a(ADD));
        faulty("another ahead of none", 4, TYPE, 1, a(INT), a(ADD_WIDE));
        faulty("a call wants the int first", 4, TYPE, 1, a(NULL), a(CALL));
        faulty("a call wants the int first", 4, TYPE, 2, a(INT), a(NULL), a(CALL));
        endless("a call", places(4), a(NULL), a(INT), a(CALL));
    }

    static void p09DeepBehind() {
        sentence(9, "DEEP behind; then where it goes");
        faulty("load nothing on a full stack", 4, PLACE, 10, many(10, INT, a(LOAD, 3)));
        faulty("deep ahead of the end", 4, DEEP, 10, many(10, INT, a(INT)));
    }

    static void p09WhereItGoes() {
        sentence(9, "then where it goes, one by one: 5, 6, 4, 2.");
        faulty("the next one's 5 ahead of 6", 4, END, 2, a(NEW), a(INT), a(IF, 0));
        faulty("6 ahead of a later 5", 4, UNMADE, 2, a(NEW), a(INT), a(SWITCH, 2, 9));
        faulty("6 ahead of 4", 4, UNMADE, 2, a(INT), a(NEW), a(GO, 1));
        ClosureFrames x = places(4, 1);
        faultyHere("4 ahead of 2", x, HEIGHT, 5, a(LOAD, 0), a(IF, 4), a(NULL), a(GO, 6), a(INT), a(INT), a(GO, 6));
        ClosureFrames y = places(4, 1);
        faultyHere("2 ahead of a later 5", y, TYPE, 6, a(LOAD, 0), a(IF, 4), a(NULL), a(GO, 7), a(INT), a(INT),
                a(SWITCH, 7, 9), a(POP));
        faultyHere("6 ahead of 2", places(4), UNMADE, 3, a(NULL), a(POP), a(NEW), a(GO, 1));
        faulty("type ahead of where it goes", 4, TYPE, 1, a(NULL), a(IF, 9));
    }

    static void p09TheFirstFaultEndsIt() {
        sentence(9, "The first FAULT ends it, at p");
        ClosureFrames x = places(4, 1);
        faultyHere("two faults", x, EMPTY, 2, a(LOAD, 0), a(IF, 3), a(POP), a(GO, 39));
        due("state", x.state(0, 1, 0), STATE);
        due("verify", x.verify(0), STATE);
        x.clear(0, 4);
        rightHere("what was due then is not due any more", x, 1, a(GO, 0), a(POP), a(POP), a(POP));
    }

    static void p09PutInARest() {
        sentence(9, "What is put in a PLACE that is a REST makes the WIDE ahead of it NOTHING");
        ClosureFrames x = places(8, 2, 2, 2, 2);
        endless("in the first and the last rest", x, a(INT), a(STORE, 1), a(NULL), a(STORE, 7), a(WIDE),
                a(STORE, 3));
        statesAre("in the first", x, 2, 0, 1, 2, 3, 2, 3, 2, 3);
        statesAre("in the last", x, 4, 0, 1, 2, 3, 2, 3, 0, 4);
        statesAre("a wide, in a rest and the wide behind it", x, 6, 0, 1, 0, 2, 3, 0, 0, 4);
    }

    static void p09PutInAWide() {
        sentence(9, "in one that was a WIDE its REST (then what is put)");
        ClosureFrames x = places(8, 2, 2, 2, 2);
        endless("in the first and the last wide", x, a(INT), a(STORE, 0), a(NULL), a(STORE, 6), a(WIDE),
                a(STORE, 2));
        statesAre("in the first", x, 2, 1, 0, 2, 3, 2, 3, 2, 3);
        statesAre("in the last", x, 4, 1, 0, 2, 3, 2, 3, 4, 0);
        statesAre("a wide over itself", x, 6, 1, 0, 2, 3, 2, 3, 4, 0);
    }

    static void p10NoneYet() {
        sentence(10, "The FAULT of the latest compute(), verify(); 0.");
        ClosureFrames x = new ClosureFrames();
        due("a new object", x.fault(), 0);
        tell(x, 0, a(POP));
        tell(x, 1, a(GO, 2), a(GO, 1), a(GO, 2));
        due("compute", x.compute(0), -10);
        due("a fault", x.fault(), EMPTY);
        due("asked again", x.fault(), EMPTY);
        due("compute", x.compute(1), 1);
        due("none", x.fault(), 0);
        due("verify", x.verify(1), -11);
        due("of verify", x.fault(), NO_FRAME);
        x.compute(1);
        due("none", x.fault(), 0);
        x.verify(1);
        x.clear(1, 4);
        tell(x, 1, a(GO, 0));
        due("of verify still", x.fault(), NO_FRAME);
        x.compute(1);
        due("verify", x.verify(1), 0);
        due("none", x.fault(), 0);
    }

    static void p10RefusedChangesNothing() {
        sentence(10, "What is refused changes nothing.");
        ClosureFrames x = new ClosureFrames();
        tell(x, 0, a(POP));
        x.compute(0);
        due("no such method", x.compute(8), BAD);
        due("no such method", x.compute(-1), BAD);
        due("no acts", x.compute(1), BAD);
        due("no such method", x.verify(8), BAD);
        due("not computed", x.verify(0), STATE);
        due("not computed", x.verify(1), STATE);
        due("the fault is told still", x.fault(), EMPTY);
    }
}
