/** Each promise of the document by hand: ordinary inputs, its edges, wrong inputs. */
public final class PromisesTest extends TestKit {
    public static void main(String[] args) {
        newObject();
        classes();
        joins();
        kinds();
        clearing();
        arguments();
        acts();
        guards();
        computing();
        emptyFaults();
        typeFaults();
        deepFaults();
        heightFaults();
        endFaults();
        unmadeFaults();
        placeFaults();
        faultOrder();
        faultLatest();
        states();
        stores();
        making();
        merging();
        caught();
        frames();
        forms();
        formsOfStacks();
        sources();
        maxima();
        planting();
        looking();
        lookingFaults();
        told();
        changes();
        end();
    }

    private static void newObject() {
        ClosureFrames x = new ClosureFrames();
        due("BAD", ClosureFrames.BAD, -1);
        due("FULL", ClosureFrames.FULL, -2);
        due("STATE", ClosureFrames.STATE, -3);
        due("NONE", ClosureFrames.NONE, -4);
        due("1: classes", x.told(0), 1);
        due("1: the root is itself", x.is(0, 0), 1);
        due("1: no other class", x.is(0, 1), BAD);
        due("1: fault", x.fault(), 0);
        for (int m = 0; m < 8; m++) {
            due("1: acts", x.told(1 + m), 0);
            due("1: guards", x.told(11 + m), 0);
            due("1: places", x.told(21 + m), 4);
            due("1: frames", x.told(31 + m), NONE);
            due("1: compute", x.compute(m), BAD);
            due("1: verify", x.verify(m), STATE);
            due("1: the last place", x.argument(m, 2), 0);
            due("1: the last place", x.argument(m, 2), 2);
            due("1: the last place", x.argument(m, 1), FULL);
        }
    }

    private static void classes() {
        ClosureFrames x = new ClosureFrames();
        due("2: no such parent", x.cls(1, false), BAD);
        due("2: no such parent", x.cls(-1, false), BAD);
        due("2: no such parent", x.cls(LOW, true), BAD);
        due("2: no such parent", x.cls(HIGH, false), BAD);
        due("2: first", x.cls(0, false), 1);
        due("2: a face below another", x.cls(1, true), BAD);
        due("2: a face", x.cls(0, true), 2);
        due("2: below a face", x.cls(2, false), BAD);
        due("2: a face below a face", x.cls(2, true), BAD);
        due("2: refused changes nothing", x.told(0), 3);
        for (int c = 3; c < 16; c++) {
            due("2: up to 16", x.cls(c % 2 == 0 ? 0 : 1, false), c);
        }
        due("2: full", x.cls(0, false), FULL);
        due("2: full", x.cls(0, true), FULL);
        due("2: bad ahead of full", x.cls(16, false), BAD);
        due("2: bad ahead of full", x.cls(2, false), BAD);
        due("2: bad ahead of full", x.cls(1, true), BAD);
        due("2: full changes nothing", x.told(0), 16);
        due("2: the last one", x.is(15, 1), 1);
    }

    private static void joins() {
        ClosureFrames x = withClasses();
        int deep = x.cls(3, false);
        due("3: same", x.joined(2, 2), 2);
        due("3: same face", x.joined(4, 4), 4);
        due("3: brothers", x.joined(2, 3), 1);
        due("3: one above", x.joined(1, 3), 1);
        due("3: one above", x.joined(deep, 1), 1);
        due("3: unlike depth", x.joined(2, deep), 1);
        due("3: unlike depth", x.joined(deep, 3), 3);
        due("3: root", x.joined(0, deep), 0);
        due("3: apart", x.joined(5, deep), 0);
        due("3: a face", x.joined(4, 2), 0);
        due("3: a face", x.joined(2, 4), 0);
        int face = x.cls(0, true);
        due("3: two faces", x.joined(4, face), 0);
        due("3: bad", x.joined(0, 8), BAD);
        due("3: bad", x.joined(8, 8), BAD);
        due("3: bad", x.joined(-1, 0), BAD);
        due("3: bad", x.joined(LOW, HIGH), BAD);
        ClosureFrames y = new ClosureFrames();
        for (int c = 1; c < 16; c++) {
            y.cls(c - 1, false);
        }
        due("3: a long line", y.joined(15, 14), 14);
        due("3: a long line", y.joined(1, 15), 1);
        due("4: a long line", y.is(15, 1), 1);
        due("4: a long line", y.is(14, 15), 0);
    }

    private static void kinds() {
        ClosureFrames x = withClasses();
        due("4: itself", x.is(2, 2), 1);
        due("4: above", x.is(2, 1), 1);
        due("4: below", x.is(1, 2), 0);
        due("4: the root", x.is(5, 0), 1);
        due("4: a face is the root", x.is(4, 0), 1);
        due("4: each one is a face", x.is(5, 4), 1);
        due("4: the root is a face", x.is(0, 4), 1);
        due("4: a face is no class", x.is(4, 1), 0);
        due("4: another face", x.is(4, x.cls(0, true)), 1);
        due("4: brothers", x.is(2, 3), 0);
        due("4: the root is no other", x.is(0, 1), 0);
        due("4: bad", x.is(0, 7), BAD);
        due("4: bad", x.is(7, 0), BAD);
        due("4: bad", x.is(-1, 4), BAD);
        due("4: bad", x.is(0, LOW), BAD);
    }

    private static void clearing() {
        ClosureFrames x = withClasses();
        due("5: fresh", x.clear(7, 1), 0);
        due("5: places", x.told(28), 1);
        due("5: eight", x.clear(0, 8), 0);
        due("5: places", x.told(21), 8);
        x.argument(0, 1);
        tell(x, 0, a(INT), a(GIVE));
        x.guard(0, 0, 1, 1, 0);
        due("5: none", x.clear(0, 0), BAD);
        due("5: nine", x.clear(0, 9), BAD);
        due("5: low", x.clear(0, LOW), BAD);
        due("5: method", x.clear(8, 4), BAD);
        due("5: method", x.clear(-1, 4), BAD);
        due("5: refused", x.told(1), 2);
        due("5: refused", x.told(21), 8);
        due("5: acts that it had", x.clear(0, 3), 2);
        due("5: no acts", x.told(1), 0);
        due("5: no guards", x.told(11), 0);
        due("5: places", x.told(21), 3);
        due("5: no arguments", x.argument(0, 2), 0);
        due("5: again", x.clear(0, 3), 0);
        rightHere("5: nothing of an earlier argument", x, 1, a(INT), a(IF, 2), a(INT), a(GIVE));
        due("5: nothing of an earlier argument", x.state(0, 0, 0), 0);
        due("5: others untouched", x.told(28), 1);
    }

    private static void arguments() {
        ClosureFrames x = withClasses();
        due("6: int", x.argument(0, 1), 0);
        due("6: wide", x.argument(0, 2), 1);
        due("6: no two places", x.argument(0, 10), 3);
        due("6: full", x.argument(0, 1), FULL);
        due("6: bad ahead of full", x.argument(0, 16), BAD);
        x.clear(1, 2);
        due("6: object", x.argument(1, 15), 0);
        due("6: a wide has no place", x.argument(1, 2), FULL);
        due("6: an int has", x.argument(1, 1), 1);
        for (int type : new int[] {0, 3, 4, 5, 9, 16, 25, 26, 99, 100, -1, LOW, HIGH}) {
            due("6: type " + type, x.argument(2, type), BAD);
        }
        due("6: method", x.argument(8, 1), BAD);
        due("6: method", x.argument(-1, 1), BAD);
        tell(x, 0, a(NULL), a(THROW));
        x.compute(0);
        due("6: refused changes nothing", x.argument(0, 1), FULL);
        due("6: state", x.state(0, 0, 0), 1);
        due("6: state", x.state(0, 0, 1), 2);
        due("6: state", x.state(0, 0, 2), 3);
        due("6: state", x.state(0, 0, 3), 10);
        due("6: state", x.state(0, 0, 4), 0);
        x.clear(3, 8);
        for (int i = 0; i < 8; i++) {
            due("6: eight", x.argument(3, 11), i);
        }
        due("6: eight", x.argument(3, 11), FULL);
    }

    private static void acts() {
        ClosureFrames x = withClasses();
        due("7: kind", x.act(0, -1, 0, 0), BAD);
        due("7: kind", x.act(0, 21, 0, 0), BAD);
        due("7: kind", x.act(0, LOW, 0, 0), BAD);
        due("7: method", x.act(8, INT, 0, 0), BAD);
        due("7: method", x.act(-1, INT, 0, 0), BAD);
        int n = 0;
        for (int kind : new int[] {INT, WIDE, NULL, POP, TWICE, ADD, ADD_WIDE, GIVE}) {
            due("7: names nothing " + kind, x.act(0, kind, LOW, HIGH), n++);
        }
        for (int kind : new int[] {LOAD, STORE, MORE}) {
            due("7: place " + kind, x.act(0, kind, -1, 0), BAD);
            due("7: place " + kind, x.act(0, kind, 8, 0), BAD);
            due("7: place " + kind, x.act(0, kind, 7, -9), n++);
        }
        for (int kind : new int[] {NEW, MAKE, FIELD, CALL, CAST, GIVE_OBJECT, THROW}) {
            due("7: class " + kind, x.act(0, kind, -1, 0), BAD);
            due("7: class " + kind, x.act(0, kind, 6, 0), BAD);
            due("7: class " + kind, x.act(0, kind, 5, 99), n++);
        }
        for (int kind : new int[] {GO, IF}) {
            due("7: act " + kind, x.act(0, kind, -1, 0), BAD);
            due("7: act " + kind, x.act(0, kind, 40, 0), BAD);
            due("7: act " + kind, x.act(0, kind, 39, -5), n++);
        }
        due("7: switch", x.act(0, SWITCH, 5, 4), BAD);
        due("7: switch", x.act(0, SWITCH, -1, 4), BAD);
        due("7: switch", x.act(0, SWITCH, 40, 40), BAD);
        due("7: switch", x.act(0, SWITCH, 0, 40), BAD);
        due("7: switch", x.act(0, SWITCH, 0, HIGH), BAD);
        due("7: switch", x.act(0, SWITCH, 4, 4), n++);
        due("7: switch", x.act(0, SWITCH, 0, 39), n++);
        due("7: refused changes nothing", x.told(1), n);
        while (n < 40) {
            due("7: up to 40", x.act(0, INT, 0, 0), n++);
        }
        due("7: full", x.act(0, INT, 0, 0), FULL);
        due("7: bad ahead of full", x.act(0, LOAD, 8, 0), BAD);
        due("7: full changes nothing", x.told(1), 40);
    }

    private static void guards() {
        ClosureFrames x = withClasses();
        due("8: method", x.guard(8, 0, 1, 0, 0), BAD);
        due("8: method", x.guard(-1, 0, 1, 0, 0), BAD);
        due("8: from", x.guard(0, -1, 1, 0, 0), BAD);
        due("8: not below", x.guard(0, 3, 3, 0, 0), BAD);
        due("8: not below", x.guard(0, 4, 3, 0, 0), BAD);
        due("8: to", x.guard(0, 0, 41, 0, 0), BAD);
        due("8: far", x.guard(0, LOW, HIGH, 0, 0), BAD);
        due("8: 40 to 40", x.guard(0, 40, 40, 0, 0), BAD);
        due("8: its act", x.guard(0, 0, 1, -1, 0), BAD);
        due("8: its act", x.guard(0, 0, 1, 40, 0), BAD);
        due("8: class", x.guard(0, 0, 1, 0, 6), BAD);
        due("8: class", x.guard(0, 0, 1, 0, -1), BAD);
        due("8: first", x.guard(0, 0, 40, 39, 5), 0);
        due("8: second", x.guard(0, 39, 40, 0, 4), 1);
        due("8: third", x.guard(0, 0, 1, 0, 0), 2);
        due("8: fourth", x.guard(0, 0, 1, 0, 0), 3);
        due("8: full", x.guard(0, 0, 1, 0, 0), FULL);
        due("8: bad ahead of full", x.guard(0, 1, 1, 0, 0), BAD);
        due("8: count", x.told(11), 4);
        due("8: others", x.told(12), 0);
        due("8: others", x.guard(1, 0, 1, 0, 0), 0);
    }

    private static void computing() {
        ClosureFrames x = withClasses();
        due("9: method", x.compute(8), BAD);
        due("9: method", x.compute(-1), BAD);
        due("9: no acts", x.compute(0), BAD);
        x.guard(0, 0, 1, 0, 0);
        due("9: no acts", x.compute(0), BAD);
        right("9: no frame", 1, 0, a(INT), a(GIVE));
        right("9: one frame", 1, 1, a(GO, 0));
        ClosureFrames y = right("9: a switch", 1, 3, a(INT), a(SWITCH, 2, 4), a(GO, 2), a(GO, 2), a(GO, 2));
        due("9: again", y.compute(0), 3);
        due("9: least states", y.state(0, 2, 99), 0);
        right("9: every kind goes", 4, 2, a(WIDE), a(WIDE), a(ADD_WIDE), a(POP), a(NULL), a(CAST, 2), a(INT),
                a(CALL, 2), a(FIELD, 2), a(STORE, 0), a(MORE, 0), a(LOAD, 0), a(TWICE), a(ADD), a(IF, 17),
                a(INT), a(GIVE), a(NULL), a(TWICE), a(POP), a(CAST, 4), a(GO, 22), a(GIVE_OBJECT, 0));
        faulty("9: number", 4, 1, 39, fortyToPop());
    }

    /** As many acts as there can be, of which the last one takes what is not there. */
    private static int[][] fortyToPop() {
        int[][] all = new int[40][];
        all[0] = a(INT);
        all[1] = a(STORE, 0);
        for (int i = 2; i < 39; i++) {
            all[i] = a(MORE, 0);
        }
        all[39] = a(POP);
        return all;
    }

    private static void emptyFaults() {
        for (int kind : new int[] {STORE, POP, TWICE, ADD, ADD_WIDE, MAKE, FIELD, CALL, CAST, IF, SWITCH, GIVE,
            GIVE_OBJECT, THROW}) {
            faulty("9: empty " + kind, 4, 1, 0, a(kind));
        }
        faulty("9: one of two", 4, 1, 1, a(INT), a(ADD));
        faulty("9: one of two", 4, 1, 1, a(WIDE), a(ADD_WIDE));
        faulty("9: one of two", 4, 1, 1, a(INT), a(CALL, 0));
    }

    private static void typeFaults() {
        for (int kind : new int[] {ADD, ADD_WIDE, FIELD, CALL, CAST, IF, SWITCH, GIVE, GIVE_OBJECT, THROW, MAKE}) {
            int given = kind == ADD || kind == IF || kind == SWITCH || kind == GIVE || kind == CALL ? WIDE : INT;
            faulty("9: type " + kind, 4, 2, 1, a(given), a(kind));
        }
        faulty("9: the second", 4, 2, 2, a(NULL), a(INT), a(ADD));
        faulty("9: the second", 4, 2, 2, a(INT), a(WIDE), a(ADD_WIDE));
        faulty("9: the second", 4, 2, 2, a(INT), a(INT), a(CALL, 0));
        faulty("9: the order of a call", 4, 2, 2, a(INT), a(NULL), a(CALL, 0));
        faulty("9: unmade is no object", 4, 2, 1, a(NEW, 1), a(FIELD, 0));
        faulty("9: unmade is no object", 4, 2, 1, a(NEW, 1), a(CAST, 0));
        faulty("9: unmade is no object", 4, 2, 1, a(NEW, 1), a(GIVE_OBJECT, 0));
        faulty("9: not such an object", 4, 2, 2, a(NULL), a(CAST, 1), a(FIELD, 2));
        faulty("9: not such an object", 4, 2, 2, a(NULL), a(CAST, 2), a(THROW, 3));
        faulty("9: not such an object", 4, 2, 2, a(NULL), a(CAST, 4), a(GIVE_OBJECT, 1));
        faulty("9: not such an object", 4, 2, 3, a(NULL), a(CAST, 5), a(INT), a(CALL, 1));
        right("9: a face", 4, 0, a(NULL), a(CAST, 5), a(FIELD, 4), a(GIVE));
        right("9: one above", 4, 0, a(NULL), a(CAST, 3), a(INT), a(CALL, 1), a(THROW, 1));
        right("9: null", 4, 0, a(NULL), a(INT), a(CALL, 3), a(GIVE_OBJECT, 3));
        faulty("9: made of another class", 4, 2, 1, a(NEW, 2), a(MAKE, 1));
        faulty("9: made of another class", 4, 2, 1, a(NEW, 1), a(MAKE, 2));
        faulty("9: made again", 4, 2, 3, a(NEW, 1), a(TWICE), a(MAKE, 1), a(MAKE, 1));
        faulty("9: joined stacks", 4, 2, 4, a(INT), a(INT), a(IF, 5), a(POP), a(NULL), a(POP), a(GO, 6));
        faulty("9: joined stacks", 4, 2, 4, a(WIDE), a(INT), a(IF, 5), a(POP), a(INT), a(POP), a(GO, 6));
    }

    private static void deepFaults() {
        int[][] eleven = new int[11][];
        for (int i = 0; i < 11; i++) {
            eleven[i] = a(i % 2 == 0 ? INT : NULL);
        }
        faulty("9: eleven", 4, 3, 10, eleven);
        faulty("9: wide counts two", 4, 3, 5, a(WIDE), a(TWICE), a(TWICE), a(WIDE), a(TWICE), a(NEW, 0));
        faulty("9: wide counts two", 4, 3, 5, a(INT), a(WIDE), a(TWICE), a(TWICE), a(TWICE), a(WIDE));
        faulty("9: twice wide", 4, 3, 5, a(INT), a(WIDE), a(TWICE), a(TWICE), a(TWICE), a(TWICE));
        ClosureFrames x = withClasses();
        x.argument(0, 2);
        faultyHere("9: load wide", x, 3, 5, a(INT), a(LOAD, 0), a(LOAD, 0), a(LOAD, 0), a(LOAD, 0), a(LOAD, 0));
        ClosureFrames y = right("9: ten", 4, 1, a(WIDE), a(TWICE), a(TWICE), a(TWICE), a(INT), a(TWICE), a(ADD),
                a(INT), a(GO, 9), a(GIVE));
        due("9: ten", y.maximum(0, 0), 10);
        due("9: ten", y.state(0, 9, 99), 6);
        faulty("9: wide twice at ten", 4, 3, 5, a(WIDE), a(TWICE), a(TWICE), a(TWICE), a(TWICE), a(NULL));
    }

    private static void heightFaults() {
        faulty("9: height", 4, 4, 2, a(INT), a(IF, 3), a(INT), a(GO, 3));
        faulty("9: a wide is one", 4, 4, 5, a(INT), a(IF, 4), a(WIDE), a(GO, 6), a(INT), a(INT), a(GO, 6));
        faulty("9: height ahead of type", 4, 4, 5, a(INT), a(IF, 4), a(NULL), a(GO, 6), a(INT), a(INT), a(GO, 6));
        ClosureFrames x = withClasses();
        x.guard(0, 0, 1, 1, 0);
        due("9: a guard goes first", x.act(0, NULL, 0, 0), 0);
        tell(x, 0, a(POP), a(GO, 2));
        due("9: null and an object", x.compute(0), 2);
        due("9: null and an object", x.state(0, 1, 100), 10);
        ClosureFrames y = withClasses();
        y.guard(0, 1, 2, 2, 0);
        faultyHere("9: height at a guard's act", y, 4, 1, a(NULL), a(NULL), a(GO, 2));
        ClosureFrames z = withClasses();
        z.guard(0, 1, 2, 0, 0);
        faultyHere("9: a guard to an act that has a state", z, 4, 1, a(INT), a(POP), a(GO, 2));
        ClosureFrames w = withClasses();
        w.guard(0, 0, 1, 1, 2);
        faultyHere("9: an object and an int", w, 2, 0, a(INT), a(POP), a(GO, 2));
    }

    private static void endFaults() {
        faulty("9: behind the last", 4, 5, 0, a(INT));
        faulty("9: go", 4, 5, 0, a(GO, 1));
        faulty("9: go", 4, 5, 0, a(GO, 39));
        faulty("9: if's next", 4, 5, 1, a(INT), a(IF, 0));
        faulty("9: if's act", 4, 5, 1, a(INT), a(IF, 9), a(GO, 2));
        faulty("9: switch", 4, 5, 1, a(INT), a(SWITCH, 2, 3), a(GO, 2));
        ClosureFrames x = withClasses();
        x.guard(0, 0, 1, 5, 0);
        faultyHere("9: guard", x, 5, 0, a(POP));
        ClosureFrames y = withClasses();
        y.guard(0, 2, 3, 5, 0);
        rightHere("9: a guard of an act without a state", y, 0, a(INT), a(GIVE), a(GO, 2), a(GO, 3));
    }

    private static void unmadeFaults() {
        faulty("9: unmade back", 4, 6, 1, a(NEW, 1), a(GO, 0));
        faulty("9: unmade to itself", 4, 6, 1, a(NEW, 1), a(GO, 1));
        faulty("9: unmade in a place", 4, 6, 2, a(NEW, 1), a(STORE, 0), a(GO, 0));
        faulty("9: unmade by if", 4, 6, 3, a(NEW, 1), a(STORE, 3), a(INT), a(IF, 0), a(GO, 4));
        faulty("9: unmade by switch", 4, 6, 3, a(NEW, 1), a(STORE, 3), a(INT), a(SWITCH, 3, 4), a(GO, 5), a(GO, 5));
        faulty("9: unmade ahead of height", 4, 6, 2, a(INT), a(NEW, 1), a(GO, 0));
        right("9: unmade on", 4, 1, a(NEW, 1), a(GO, 2), a(MAKE, 1), a(INT), a(GIVE));
        right("9: made back", 4, 1, a(NEW, 1), a(MAKE, 1), a(GO, 0));
        ClosureFrames x = withClasses();
        x.guard(0, 2, 3, 0, 0);
        faultyHere("9: a guard takes unmade away", x, 4, 2, a(NEW, 1), a(STORE, 0), a(INT), a(GIVE));
        ClosureFrames y = withClasses();
        y.guard(0, 2, 5, 1, 0);
        rightHere("9: a guard goes back", y, 1, a(NULL), a(POP), a(NEW, 1), a(STORE, 0), a(INT), a(GIVE));
        due("9: a guard goes back", y.state(0, 1, 0), 0);
        due("9: a guard goes back", y.state(0, 4, 0), 102);
    }

    private static void placeFaults() {
        faulty("9: no place to load", 3, 7, 0, a(LOAD, 3));
        faulty("9: no place to store", 3, 7, 1, a(INT), a(STORE, 3));
        faulty("9: no place to add", 3, 7, 0, a(MORE, 3));
        faulty("9: no place ahead of empty", 3, 7, 0, a(STORE, 3));
        faulty("9: empty ahead of a place behind", 3, 1, 0, a(STORE, 2));
        faulty("9: nothing to load", 3, 7, 0, a(LOAD, 2));
        faulty("9: nothing to add to", 3, 7, 0, a(MORE, 2));
        faulty("9: rest", 3, 7, 2, a(WIDE), a(STORE, 1), a(LOAD, 2));
        faulty("9: no place behind", 3, 7, 1, a(WIDE), a(STORE, 2));
        faulty("9: no int to add to", 3, 7, 2, a(NULL), a(STORE, 2), a(MORE, 2));
        faulty("9: no int to add to", 3, 7, 2, a(WIDE), a(STORE, 1), a(MORE, 2));
        right("9: the last place", 3, 0, a(INT), a(STORE, 2), a(MORE, 2), a(LOAD, 2), a(GIVE));
        right("9: the last two", 8, 0, a(WIDE), a(STORE, 6), a(LOAD, 6), a(POP), a(INT), a(GIVE));
        faulty("9: no ninth", 8, 7, 1, a(WIDE), a(STORE, 7));
    }

    private static void faultOrder() {
        faulty("9: place ahead of deep", 4, 7, 5, a(WIDE), a(TWICE), a(TWICE), a(TWICE), a(TWICE), a(LOAD, 4));
        faulty("9: deep ahead of end", 4, 3, 5, a(WIDE), a(TWICE), a(TWICE), a(TWICE), a(TWICE), a(INT));
        faulty("9: next ahead of the rest", 4, 5, 2, a(NEW, 0), a(INT), a(IF, 0));
        faulty("9: type ahead of end", 4, 2, 1, a(NULL), a(IF, 30));
        faulty("9: one by one", 4, 6, 2, a(NEW, 0), a(INT), a(SWITCH, 2, 30));
        ClosureFrames x = withClasses();
        x.guard(0, 0, 1, 1, 0);
        x.guard(0, 0, 1, 30, 0);
        faultyHere("9: guards ahead of the act", x, 5, 0, a(POP), a(GO, 1));
        ClosureFrames y = withClasses();
        y.argument(0, 1);
        y.guard(0, 1, 2, 3, 1);
        y.guard(0, 1, 2, 2, 1);
        faultyHere("9: the least act that is due", y, 1, 1, a(GO, 1), a(POP), a(FIELD, 3), a(GO, 3));
    }

    private static void faultLatest() {
        ClosureFrames x = withClasses();
        tell(x, 0, a(POP));
        tell(x, 1, a(INT), a(GIVE));
        tell(x, 2, a(GO, 2), a(GO, 0), a(GO, 2));
        x.compute(0);
        due("10: first", x.fault(), 1);
        due("10: refused", x.compute(9), BAD);
        due("10: refused", x.compute(3), BAD);
        due("10: refused", x.verify(0), STATE);
        due("10: refused", x.verify(9), BAD);
        due("10: refused", x.fault(), 1);
        x.clear(0, 4);
        due("10: it stays", x.fault(), 1);
        x.compute(1);
        due("10: none", x.fault(), 0);
        due("10: dead acts", x.compute(2), 1);
        due("10: dead acts", x.verify(2), -11);
        due("10: of verify", x.fault(), 8);
        due("10: verify right", x.verify(1), 0);
        due("10: verify right", x.fault(), 0);
    }

    private static void states() {
        ClosureFrames x = withClasses();
        x.clear(0, 2);
        x.argument(0, 12);
        tell(x, 0, a(WIDE), a(LOAD, 0), a(NULL), a(GO, 5), a(INT), a(THROW));
        due("11: not computed", x.state(0, 0, 0), STATE);
        due("11: bad ahead of it", x.state(0, 6, 0), BAD);
        due("11: bad ahead of it", x.state(0, 0, 8), BAD);
        due("11: compute", x.compute(0), 1);
        due("11: argument", x.state(0, 5, 0), 12);
        due("11: nothing", x.state(0, 5, 1), 0);
        due("11: beyond", x.state(0, 5, 2), 0);
        due("11: beyond", x.state(0, 5, 7), 0);
        due("11: height", x.state(0, 5, 99), 3);
        due("11: first", x.state(0, 5, 100), 2);
        due("11: second", x.state(0, 5, 101), 12);
        due("11: last", x.state(0, 5, 102), 4);
        due("11: no such", x.state(0, 5, 103), BAD);
        due("11: no such", x.state(0, 0, 100), BAD);
        due("11: empty", x.state(0, 0, 99), 0);
        due("11: none", x.state(0, 4, 0), NONE);
        due("11: none ahead of i", x.state(0, 4, 109), NONE);
        for (int place : new int[] {-1, 8, 98, 110, 50, LOW, HIGH}) {
            due("11: place " + place, x.state(0, 5, place), BAD);
            due("11: place " + place, x.state(0, 4, place), BAD);
        }
        due("11: act", x.state(0, 6, 0), BAD);
        due("11: act", x.state(0, -1, 0), BAD);
        due("11: method", x.state(8, 0, 0), BAD);
        due("11: method", x.state(-1, 0, 0), BAD);
        due("11: no acts", x.state(1, 0, 0), BAD);
    }

    private static void stores() {
        ClosureFrames x = withClasses();
        x.clear(0, 6);
        x.argument(0, 2);
        x.argument(0, 2);
        x.argument(0, 2);
        rightHere("11: stores", x, 1, a(WIDE), a(STORE, 1), a(INT), a(STORE, 2), a(WIDE), a(STORE, 3), a(WIDE),
                a(STORE, 3), a(NULL), a(STORE, 3), a(INT), a(STORE, 5), a(GO, 12));
        statesAre("11: wides", x, 0, 2, 3, 2, 3, 2, 3, 0, 0);
        statesAre("11: wide over rest and wide", x, 2, 0, 2, 3, 0, 2, 3, 0, 0);
        statesAre("11: int over rest", x, 4, 0, 0, 1, 0, 2, 3, 0, 0);
        statesAre("11: rest over wide", x, 6, 0, 0, 1, 2, 3, 0, 0, 0);
        statesAre("11: wide over itself", x, 8, 0, 0, 1, 2, 3, 0, 0, 0);
        statesAre("11: null over wide", x, 10, 0, 0, 1, 4, 0, 0, 0, 0);
        statesAre("11: int over nothing", x, 12, 0, 0, 1, 4, 0, 1, 0, 0);
    }

    private static void making() {
        ClosureFrames x = right("11: make", 4, 1, a(NEW, 2), a(TWICE), a(STORE, 1), a(NEW, 2), a(STORE, 2), a(TWICE),
                a(INT), a(STORE, 0), a(MAKE, 2), a(GO, 10), a(THROW));
        statesAre("11: unmade", x, 8, 1, 100, 103, 0);
        due("11: unmade", x.state(0, 8, 100), 100);
        due("11: unmade", x.state(0, 8, 101), 100);
        statesAre("11: made", x, 9, 1, 12, 103, 0);
        due("11: made", x.state(0, 9, 99), 1);
        due("11: made", x.state(0, 9, 100), 12);
        ClosureFrames y = right("11: results", 4, 1, a(NULL), a(CAST, 3), a(INT), a(CALL, 1), a(FIELD, 1), a(NULL),
                a(CAST, 4), a(WIDE), a(WIDE), a(ADD_WIDE), a(INT), a(INT), a(ADD), a(GO, 13));
        due("11: cast", y.state(0, 2, 100), 13);
        due("11: call", y.state(0, 4, 100), 11);
        due("11: field", y.state(0, 5, 100), 1);
        due("11: field", y.state(0, 5, 99), 1);
        due("11: cast to a face", y.state(0, 13, 101), 14);
        due("11: add wide", y.state(0, 13, 102), 2);
        due("11: add", y.state(0, 13, 103), 1);
        due("11: add", y.state(0, 13, 99), 4);
    }

    private static void merging() {
        ClosureFrames x = withClasses();
        x.clear(0, 8);
        for (int type : new int[] {1, 12, 12, 12, 12, 2}) {
            x.argument(0, type);
        }
        // The second way: NULL, an object of 3, of 5, a face, an INT.
        rightHere("11: joins", x, 2, a(LOAD, 0), a(IF, 4), a(NULL), a(GO, 15), a(NULL), a(STORE, 1), a(NULL),
                a(CAST, 3), a(STORE, 2), a(NULL), a(CAST, 4), a(STORE, 3), a(INT), a(STORE, 5), a(NULL), a(STORE, 7),
                a(INT), a(GIVE));
        statesAre("11: joined", x, 15, 1, 12, 11, 10, 12, 0, 0, 0);
        due("11: joined stack", x.state(0, 15, 100), 4);
        ClosureFrames y = withClasses();
        y.argument(0, 1);
        rightHere("11: a joined stack", y, 2, a(LOAD, 0), a(IF, 5), a(NULL), a(CAST, 2), a(GO, 7), a(NULL),
                a(CAST, 3), a(MORE, 0), a(GIVE_OBJECT, 1));
        due("11: a joined stack", y.state(0, 7, 100), 11);
        due("11: goes on with what was joined", y.state(0, 8, 100), 11);
        ClosureFrames z = withClasses();
        z.argument(0, 13);
        z.argument(0, 1);
        rightHere("11: round and round", z, 1, a(MORE, 1), a(LOAD, 0), a(STORE, 2), a(NULL), a(CAST, 2), a(STORE, 0),
                a(LOAD, 1), a(IF, 0), a(LOAD, 2), a(STORE, 3), a(GO, 0));
        statesAre("11: round and round", z, 0, 11, 1, 0, 0);
        statesAre("11: what is told later goes round too", z, 8, 12, 1, 11, 0);
        statesAre("11: and on", z, 10, 12, 1, 11, 11);
    }

    private static void caught() {
        ClosureFrames x = withClasses();
        x.guard(0, 1, 4, 6, 5);
        x.guard(0, 2, 3, 7, 4);
        rightHere("11: guards", x, 2, a(INT), a(STORE, 0), a(NEW, 1), a(STORE, 1), a(INT), a(GIVE), a(THROW, 5),
                a(THROW, 4));
        statesAre("11: caught", x, 6, 0, 0, 0, 0);
        due("11: caught", x.state(0, 6, 99), 1);
        due("11: caught", x.state(0, 6, 100), 15);
        statesAre("11: ahead of the act alone", x, 7, 1, 0, 0, 0);
        due("11: caught", x.state(0, 7, 100), 14);
        ClosureFrames y = withClasses();
        y.argument(0, 1);
        y.guard(0, 1, 3, 0, 0);
        faultyHere("11: back to the beginning", y, 4, 1, a(INT), a(POP), a(INT), a(GIVE));
        ClosureFrames z = withClasses();
        z.guard(0, 1, 2, 1, 2);
        rightHere("11: to itself", z, 1, a(NULL), a(POP), a(INT), a(GIVE));
        due("11: to itself", z.state(0, 1, 100), 12);
    }

    private static void frames() {
        ClosureFrames x = withClasses();
        x.argument(0, 1);
        x.guard(0, 2, 4, 6, 2);
        tell(x, 0, a(LOAD, 0), a(IF, 4), a(NULL), a(STORE, 2), a(INT), a(GIVE), a(GIVE_OBJECT, 1), a(GO, 8), a(GO, 7));
        due("12: not computed", x.frame(0, 0, 0), STATE);
        due("12: state ahead of bad", x.frame(0, 9, 200), STATE);
        due("12: compute", x.compute(0), 2);
        due("12: act", x.frame(0, 0, 98), 4);
        due("12: act", x.frame(0, 1, 98), 6);
        due("12: place", x.frame(0, 0, 0), 1);
        due("12: joined place", x.frame(0, 0, 2), 0);
        due("12: beyond", x.frame(0, 0, 7), 0);
        due("12: height", x.frame(0, 0, 99), 0);
        due("12: height", x.frame(0, 1, 99), 1);
        due("12: stack", x.frame(0, 1, 100), 12);
        due("12: no such i", x.frame(0, 1, 101), BAD);
        due("12: no such i", x.frame(0, 0, 100), BAD);
        for (int place : new int[] {-1, 8, 97, 110, LOW, HIGH}) {
            due("12: place " + place, x.frame(0, 0, place), BAD);
        }
        for (int k : new int[] {-1, 2, 40, LOW, HIGH}) {
            due("12: frame " + k, x.frame(0, k, 98), BAD);
            due("13: frame " + k, x.form(0, k), BAD);
        }
        due("12: method", x.frame(8, 0, 0), BAD);
        due("12: method", x.frame(-1, 0, 0), BAD);
        due("12: no acts", x.frame(1, 0, 0), STATE);
        ClosureFrames y = right("12: the next one too", 4, 1, a(INT), a(IF, 2), a(INT), a(GIVE));
        due("12: the next one too", y.frame(0, 0, 98), 2);
        y.clear(0, 4);
        rightHere("12: none of an earlier method", y, 0, a(INT), a(POP), a(INT), a(GIVE));
        due("12: none of an earlier method", y.frame(0, 0, 98), BAD);
        right("12: not of a next one alone", 4, 1, a(INT), a(IF, 4), a(INT), a(GIVE), a(GO, 4));
    }

    /** Frames at each act from 2 on, one for each pair of a kind that comes and a place where it goes. */
    private static ClosureFrames chain(int places, int[] arguments, int[]... stores) {
        ClosureFrames x = withClasses();
        x.clear(0, places);
        for (int type : arguments) {
            x.argument(0, type);
        }
        int p = 0;
        for (int[] each : stores) {
            for (int i = 0; i < each.length; i += 2) {
                tell(x, 0, a(each[i]), a(STORE, each[i + 1]));
                p += 2;
            }
            tell(x, 0, a(GO, p + 1));
            p++;
        }
        tell(x, 0, a(NULL), a(THROW));
        due("13: a chain", x.compute(0), stores.length);
        return x;
    }

    private static void forms() {
        ClosureFrames x = chain(8, a(1), a(), a(INT, 1), a(INT, 2, INT, 3), a(WIDE, 4, INT, 6, NULL, 7));
        due("13: same", x.form(0, 0), 0);
        due("13: one more", x.form(0, 1), 31);
        due("13: two more", x.form(0, 2), 32);
        due("13: three more, one wide", x.form(0, 3), 33);
        ClosureFrames y = chain(8, a(), a(INT, 1), a(INT, 5), a(INT, 0), a(NULL, 0));
        due("13: nothing counts", y.form(0, 0), 32);
        due("13: four more", y.form(0, 1), 40);
        due("13: another", y.form(0, 2), 40);
        due("13: another", y.form(0, 3), 40);
        ClosureFrames z = chain(8, a(1, 2, 1, 1, 2), a(INT, 7), a(WIDE, 5), a(WIDE, 3), a(WIDE, 0));
        due("13: behind wides", z.form(0, 0), 31);
        due("13: a wide over itself", z.form(0, 1), 0);
        due("13: a wide over ints", z.form(0, 2), 40);
        due("13: a wide over a wide", z.form(0, 3), 40);
        lessForms();
    }

    private static void lessForms() {
        // Ways that meet: each time what was stored behind the argument is joined away.
        for (int n = 1; n <= 4; n++) {
            ClosureFrames x = withClasses();
            x.clear(0, 8);
            x.argument(0, 1);
            int p = 0;
            tell(x, 0, a(LOAD, 0), a(IF, 2 + 2 * n + 3));
            p = 2;
            for (int i = 0; i < n; i++) {
                tell(x, 0, i == 0 ? a(WIDE) : a(INT), a(STORE, i == 0 ? 1 : 2 + i));
                p += 2;
            }
            tell(x, 0, a(GO, p + 1), a(LOAD, 0), a(IF, p + 3), a(GO, p + 3));
            due("13: less", x.compute(0), 2);
            due("13: less, the first", x.form(0, 0), n <= 3 ? 30 + n : 40);
            due("13: less, the second", x.form(0, 1), n <= 3 ? 20 + n : 40);
        }
        ClosureFrames y = withClasses();
        y.argument(0, 1);
        y.argument(0, 2);
        rightHere("13: less than the beginning", y, 2, a(INT), a(STORE, 2), a(GO, 3), a(INT), a(STORE, 2), a(NULL),
                a(STORE, 0), a(GO, 8), a(GO, 8));
        due("13: less than the beginning", y.form(0, 0), 40);
        ClosureFrames z = withClasses();
        z.argument(0, 1);
        z.argument(0, 1);
        z.argument(0, 2);
        rightHere("13: less than the beginning", z, 2, a(GO, 1), a(INT), a(STORE, 3), a(GO, 4), a(GO, 4));
        due("13: same as the beginning", z.form(0, 0), 0);
        due("13: a rest became an int", z.form(0, 1), 40);
    }

    private static void formsOfStacks() {
        ClosureFrames x = right("13: stacks", 4, 5, a(NULL), a(GO, 2), a(WIDE), a(GO, 4), a(POP), a(POP), a(WIDE),
                a(GO, 8), a(STORE, 0), a(NULL), a(GO, 11), a(POP), a(GO, 13), a(GO, 13));
        due("13: one", x.form(0, 0), 1);
        due("13: two on the stack", x.form(0, 1), 40);
        due("13: a wide is one", x.form(0, 2), 1);
        due("13: more and one", x.form(0, 3), 40);
        due("13: same again", x.form(0, 4), 0);
        ClosureFrames y = withClasses();
        y.argument(0, 1);
        y.guard(0, 0, 3, 5, 1);
        rightHere("13: less and one", y, 2, a(MORE, 0), a(INT), a(STORE, 1), a(GO, 4), a(GO, 4), a(THROW, 1));
        due("13: more", y.form(0, 0), 31);
        due("13: less and one", y.form(0, 1), 40);
        due("13: method", y.form(8, 0), BAD);
        due("13: method", y.form(-1, 0), BAD);
        due("13: state", y.form(1, 0), STATE);
        due("13: state ahead of bad", y.form(1, 99), STATE);
        due("13: frame", y.form(0, 2), BAD);
    }

    private static void sources() {
        ClosureFrames x = withClasses();
        x.argument(0, 1);
        x.guard(0, 1, 3, 9, 0);
        x.guard(0, 2, 4, 9, 0);
        tell(x, 0, a(LOAD, 0), a(IF, 4), a(MORE, 0), a(GO, 4), a(LOAD, 0), a(SWITCH, 6, 8), a(GO, 4), a(GO, 4),
                a(GO, 4), a(THROW), a(GO, 4));
        due("14: not computed", x.shared(0, 4), STATE);
        due("14: bad ahead of it", x.shared(0, 11), BAD);
        due("14: compute", x.compute(0), 5);
        due("14: if, go", x.shared(0, 4), 5);
        due("14: switch", x.shared(0, 6), 1);
        due("14: switch", x.shared(0, 7), 1);
        due("14: switch", x.shared(0, 8), 1);
        due("14: guards, each once", x.shared(0, 9), 3);
        due("14: not the next one", x.shared(0, 1), 0);
        due("14: none", x.shared(0, 0), 0);
        due("14: without a state", x.shared(0, 10), 0);
        due("14: act", x.shared(0, 11), BAD);
        due("14: act", x.shared(0, -1), BAD);
        due("14: method", x.shared(8, 0), BAD);
        due("14: method", x.shared(-1, 0), BAD);
        due("14: no acts", x.shared(1, 0), BAD);
        ClosureFrames y = withClasses();
        tell(y, 0, a(POP));
        y.compute(0);
        due("14: by a fault", y.shared(0, 0), STATE);
    }

    private static void maxima() {
        ClosureFrames x = withClasses();
        x.clear(0, 8);
        x.argument(0, 1);
        x.argument(0, 2);
        due("15: not computed", x.maximum(0, 0), STATE);
        rightHere("15: arguments", x, 1, a(GO, 1), a(INT), a(GIVE), a(LOAD, 7), a(WIDE), a(WIDE));
        due("15: stack", x.maximum(0, 0), 1);
        due("15: arguments", x.maximum(0, 1), 3);
        ClosureFrames y = right("15: store wide", 8, 0, a(WIDE), a(STORE, 3), a(INT), a(GIVE));
        due("15: a wide counts two", y.maximum(0, 0), 2);
        due("15: a wide has one more", y.maximum(0, 1), 5);
        ClosureFrames z = right("15: store", 8, 0, a(INT), a(STORE, 6), a(INT), a(TWICE), a(ADD), a(GIVE));
        due("15: stack", z.maximum(0, 0), 2);
        due("15: store", z.maximum(0, 1), 7);
        ClosureFrames w = right("15: nothing", 8, 1, a(GO, 0));
        due("15: nothing", w.maximum(0, 0), 0);
        due("15: nothing", w.maximum(0, 1), 0);
        ClosureFrames v = withClasses();
        v.guard(0, 0, 1, 0, 1);
        due("15: a guard's object", v.act(0, GO, 1, 0), 0);
        tell(v, 0, a(GO, 1));
        due("15: a guard's object", v.compute(0), -10);
        ClosureFrames u = withClasses();
        u.guard(0, 0, 1, 1, 1);
        tell(u, 0, a(GO, 2), a(GO, 1), a(GO, 2));
        due("15: a guard's object", u.compute(0), 2);
        due("15: a guard's object", u.maximum(0, 0), 1);
        ClosureFrames popped = withClasses();
        popped.guard(0, 0, 1, 1, 1);
        rightHere("15: a guard's object that goes", popped, 2, a(GO, 2), a(POP), a(GO, 2));
        due("15: a guard's object that goes", popped.maximum(0, 0), 1);
        for (int what : new int[] {-1, 2, LOW, HIGH}) {
            due("15: what " + what, u.maximum(0, what), BAD);
            due("15: what " + what, u.maximum(1, what), BAD);
        }
        due("15: method", u.maximum(8, 0), BAD);
        due("15: method", u.maximum(-1, 0), BAD);
        due("15: state", u.maximum(1, 1), STATE);
        ClosureFrames t = withClasses();
        t.clear(0, 8);
        rightHere("15: once more", t, 0, a(WIDE), a(STORE, 6), a(INT), a(GIVE));
        due("15: once more", t.maximum(0, 1), 8);
        t.clear(0, 8);
        rightHere("15: fewer", t, 0, a(INT), a(GIVE));
        due("15: fewer", t.maximum(0, 1), 0);
        due("15: fewer", t.maximum(0, 0), 1);
    }

    private static void planting() {
        ClosureFrames x = withClasses();
        x.clear(0, 5);
        x.argument(0, 1);
        x.argument(0, 2);
        tell(x, 0, a(NEW, 1), a(WIDE), a(GO, 3), a(POP), a(MAKE, 1), a(GO, 5));
        due("16: state", x.plant(0, 0, 0, 1), STATE);
        due("16: state ahead of the frame", x.plant(0, 99, 0, 1), STATE);
        due("16: state ahead of 0 on the stack", x.plant(0, 0, 100, 0), STATE);
        due("16: type ahead of state", x.plant(0, 0, 0, 2), BAD);
        due("16: place ahead of state", x.plant(0, 0, 8, 1), BAD);
        due("16: compute", x.compute(0), 2);
        for (int type : new int[] {2, 3, 5, 9, 16, 26, 100, 101, -1, LOW, HIGH}) {
            due("16: type " + type, x.plant(0, 0, 0, type), BAD);
        }
        for (int place : new int[] {-1, 8, 98, 99, 110, LOW, HIGH}) {
            due("16: place " + place, x.plant(0, 0, place, 1), BAD);
        }
        due("16: method", x.plant(8, 0, 0, 1), BAD);
        due("16: method", x.plant(-1, 0, 0, 1), BAD);
        due("16: frame", x.plant(0, 2, 0, 1), BAD);
        due("16: frame", x.plant(0, -1, 0, 1), BAD);
        due("16: no such place", x.plant(0, 0, 5, 1), BAD);
        due("16: no such i", x.plant(0, 0, 102, 1), BAD);
        due("16: no such i", x.plant(0, 1, 100, 1), BAD);
        due("16: 0 on the stack", x.plant(0, 0, 100, 0), BAD);
        due("16: a wide", x.plant(0, 0, 1, 1), BAD);
        due("16: a rest", x.plant(0, 0, 2, 1), BAD);
        due("16: a wide on the stack", x.plant(0, 0, 101, 1), BAD);
        due("16: refused changes nothing", x.verify(0), 0);
        due("16: unmade", x.plant(0, 0, 100, 15), 100);
        due("16: told", x.frame(0, 0, 100), 15);
        due("16: not states", x.state(0, 3, 100), 100);
        due("16: null", x.plant(0, 0, 100, 4), 15);
        due("16: int", x.plant(0, 0, 100, 1), 4);
        due("16: place", x.plant(0, 1, 0, 0), 1);
        due("16: place", x.plant(0, 1, 4, 10), 0);
        due("16: place", x.frame(0, 1, 4), 10);
        due("16: place", x.state(0, 5, 4), 0);
        due("16: frames", x.told(31), 2);
        due("16: again", x.compute(0), 2);
        due("16: as computed", x.frame(0, 0, 100), 100);
        due("16: as computed", x.frame(0, 1, 4), 0);
        plantedForms();
    }

    private static void plantedForms() {
        ClosureFrames x = withClasses();
        x.argument(0, 1);
        rightHere("16: forms", x, 3, a(GO, 1), a(GO, 2), a(GO, 3), a(GO, 3));
        due("16: alike", x.form(0, 1), 0);
        due("16: plant", x.plant(0, 1, 2, 14), 0);
        due("16: the one before", x.form(0, 0), 0);
        due("16: two more", x.form(0, 1), 32);
        due("16: two less", x.form(0, 2), 22);
        due("16: plant", x.plant(0, 1, 1, 4), 0);
        due("16: plant", x.plant(0, 1, 3, 1), 0);
        due("16: three more", x.form(0, 1), 33);
        due("16: three less", x.form(0, 2), 23);
        due("16: plant", x.plant(0, 1, 0, 4), 1);
        due("16: another", x.form(0, 1), 40);
        due("16: another", x.form(0, 2), 40);
        due("16: plant", x.plant(0, 0, 0, 0), 1);
        due("16: less than the beginning", x.form(0, 0), 21);
        due("16: four more", x.form(0, 1), 40);
        due("16: plant", x.plant(0, 2, 0, 4), 1);
        due("16: three less", x.form(0, 2), 23);
    }

    private static void looking() {
        ClosureFrames x = withClasses();
        due("17: method", x.verify(8), BAD);
        due("17: method", x.verify(-1), BAD);
        due("17: state", x.verify(0), STATE);
        x.argument(0, 1);
        x.argument(0, 12);
        x.guard(0, 2, 4, 8, 1);
        tell(x, 0, a(LOAD, 0), a(IF, 4), a(NULL), a(STORE, 1), a(LOAD, 1), a(FIELD, 1), a(IF, 0), a(GO, 4), a(POP),
                a(INT), a(GIVE));
        due("17: state", x.verify(0), STATE);
        due("17: compute", x.compute(0), 3);
        due("17: right", x.verify(0), 0);
        due("17: a wider one", x.plant(0, 1, 1, 11), 12);
        due("17: not back at 0", x.verify(0), -16);
        due("17: not back at 0", x.fault(), 9);
        due("17: wider there too", x.plant(0, 0, 1, 11), 12);
        due("17: not in the guard's", x.verify(0), -12);
        due("17: not in the guard's", x.fault(), 9);
        due("17: nothing in the guard's", x.plant(0, 2, 1, 0), 12);
        due("17: right", x.verify(0), 0);
        due("17: right", x.fault(), 0);
        due("17: a face where it goes", x.plant(0, 1, 1, 14), 11);
        due("17: no field of it", x.verify(0), -15);
        due("17: no field of it", x.fault(), 2);
        due("17: state stays", x.state(0, 4, 1), 12);
        due("17: it stays computed", x.frame(0, 1, 1), 14);
    }

    private static void looksWrong(String what, ClosureFrames x, int fault, int at) {
        due(what, x.verify(0), -10 - at);
        due(what, x.fault(), fault);
    }

    private static void lookingFaults() {
        ClosureFrames x = right("17: dead", 4, 1, a(GO, 2), a(INT), a(GO, 2));
        looksWrong("17: no state, no frame", x, 8, 1);
        ClosureFrames y = right("17: behind", 4, 0, a(INT), a(GIVE), a(GO, 2));
        looksWrong("17: dead behind give", y, 8, 2);
        ClosureFrames z = right("17: the next", 4, 1, a(INT), a(STORE, 0), a(MORE, 0), a(GO, 2));
        z.plant(0, 0, 0, 4);
        looksWrong("17: at the next", z, 9, 2);
        z.plant(0, 0, 0, 0);
        looksWrong("17: place", z, 7, 2);
        z.plant(0, 0, 0, 1);
        due("17: as it was", z.verify(0), 0);
        z.plant(0, 0, 3, 1);
        looksWrong("17: nothing is no int", z, 9, 2);
        ClosureFrames w = right("17: begin", 4, 1, a(GO, 0));
        w.plant(0, 0, 0, 4);
        looksWrong("17: at the beginning", w, 9, 0);
        ClosureFrames v = right("17: stack", 4, 1, a(NEW, 2), a(GO, 2), a(MAKE, 2), a(INT), a(GIVE));
        v.plant(0, 0, 100, 12);
        looksWrong("17: unmade is no object", v, 9, 1);
        ClosureFrames u = right("17: stack", 4, 1, a(NULL), a(GO, 2), a(THROW, 2));
        u.plant(0, 0, 100, 12);
        due("17: null fits an object", u.verify(0), 0);
        u.plant(0, 0, 100, 13);
        looksWrong("17: type", u, 2, 2);
        u.plant(0, 0, 100, 1);
        looksWrong("17: null is no int", u, 9, 1);
        lookingOrder();
    }

    private static void lookingOrder() {
        ClosureFrames x = withClasses();
        x.argument(0, 1);
        x.guard(0, 1, 2, 3, 4);
        rightHere("17: order", x, 2, a(GO, 1), a(LOAD, 0), a(GIVE), a(THROW, 4));
        x.plant(0, 1, 100, 13);
        looksWrong("17: a face is no class", x, 9, 1);
        x.plant(0, 0, 0, 0);
        looksWrong("17: guards ahead of the act", x, 9, 1);
        x.plant(0, 1, 0, 0);
        x.plant(0, 1, 100, 10);
        looksWrong("17: then the act", x, 7, 1);
        x.plant(0, 0, 0, 1);
        due("17: the root is a face", x.verify(0), 0);
        ClosureFrames y = withClasses();
        y.argument(0, 1);
        rightHere("17: switch", y, 3, a(LOAD, 0), a(SWITCH, 2, 4), a(GO, 2), a(GO, 3), a(GO, 4));
        y.plant(0, 2, 0, 10);
        looksWrong("17: the last of a switch", y, 9, 1);
        ClosureFrames z = withClasses();
        z.guard(0, 2, 4, 5, 1);
        rightHere("17: unmade", z, 3, a(NEW, 1), a(STORE, 0), a(INT), a(POP), a(GO, 6), a(THROW, 1), a(GO, 7), a(INT),
                a(GIVE));
        due("17: unmade goes on, not to the guard", z.verify(0), 0);
        z.plant(0, 0, 0, 10);
        looksWrong("17: nothing is no object", z, 9, 2);
    }

    private static void told() {
        ClosureFrames x = withClasses();
        tell(x, 7, a(INT), a(GIVE), a(GO, 2));
        x.guard(7, 0, 1, 2, 0);
        x.clear(6, 8);
        due("18: classes", x.told(0), 6);
        due("18: acts", x.told(8), 3);
        due("18: guards", x.told(18), 1);
        due("18: places", x.told(28), 4);
        due("18: places", x.told(27), 8);
        due("18: frames", x.told(38), NONE);
        due("18: compute", x.compute(7), 1);
        due("18: frames", x.told(38), 1);
        due("18: others", x.told(37), NONE);
        for (int what : new int[] {-1, 9, 10, 19, 20, 29, 30, 39, 40, LOW, HIGH}) {
            due("18: " + what, x.told(what), BAD);
        }
    }

    private static void changes() {
        ClosureFrames x = withClasses();
        tell(x, 0, a(GO, 0));
        tell(x, 1, a(GO, 0));
        x.compute(0);
        x.compute(1);
        due("a class changes no method", x.cls(0, false), 6);
        due("a class changes no method", x.told(31), 1);
        due("refused", x.act(0, 21, 0, 0), BAD);
        due("refused", x.guard(0, 1, 1, 0, 0), BAD);
        due("refused", x.argument(0, 4), BAD);
        due("refused", x.clear(0, 9), BAD);
        due("refused changes nothing", x.told(31), 1);
        due("an act", x.act(0, THROW, 0, 0), 1);
        due("an act changes it", x.told(31), NONE);
        due("an act changes it", x.state(0, 0, 0), STATE);
        due("an act changes it", x.form(0, 0), STATE);
        due("an act changes it", x.verify(0), STATE);
        x.compute(0);
        due("a guard", x.guard(0, 0, 1, 1, 0), 0);
        due("a guard changes it", x.frame(0, 0, 0), STATE);
        due("a guard changes it", x.maximum(0, 0), STATE);
        x.compute(0);
        due("an argument", x.argument(0, 1), 0);
        due("an argument changes it", x.shared(0, 0), STATE);
        due("an argument changes it", x.plant(0, 0, 0, 1), STATE);
        x.compute(0);
        due("with its argument", x.state(0, 0, 0), 1);
        x.clear(0, 4);
        due("clear changes it", x.told(31), NONE);
        due("others stay", x.told(32), 1);
        due("others stay", x.state(1, 0, 0), 0);
    }
}
