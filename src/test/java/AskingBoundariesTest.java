/** Promises 11 to 15: a test of its own for each sentence that names a boundary case. */
public final class AskingBoundariesTest extends TestKit {
    public static void main(String[] args) {
        runAll(AskingBoundariesTest.class);
    }

    /** Method 0 with two places, three on the stack ahead of act 5, act 4 without a state, a frame at act 5. */
    private static ClosureFrames sample() {
        ClosureFrames x = places(2, 12);
        tell(x, 0, a(WIDE), a(LOAD, 0), a(NULL), a(GO, 5), a(INT), a(THROW));
        due("compute", x.compute(0), 1);
        return x;
    }

    static void p11AnyPlace() {
        sentence(11, "TYPE in a PLACE (0 .. 7) ahead of an ACT as it was computed");
        ClosureFrames x = places(8, 1, 2, 10, 15);
        tell(x, 0, a(NULL), a(STORE, 5), a(NEW, 3), a(STORE, 7), a(NULL), a(THROW));
        due("compute", x.compute(0), 0);
        statesAre("ahead of the first", x, 0, 1, 2, 3, 10, 15, 0, 0, 0);
        statesAre("ahead of the last", x, 5, 1, 2, 3, 10, 15, 4, 0, 102);
        ClosureFrames y = places(4);
        tell(y, 0, a(INT), a(STORE, 0));
        tell(y, 0, many(37, MORE, a(GO, 39)));
        due("compute", y.compute(0), 1);
        due("ahead of act 39", y.state(0, 39, 0), 1);
    }

    static void p11BeyondItsPlaces() {
        sentence(11, "(0 beyond its PLACES)");
        for (int n = 1; n < 8; n++) {
            ClosureFrames x = places(8, 1, 1, 1, 1, 1, 1, 1, 1);
            tell(x, 0, a(GO, 0));
            x.compute(0);
            x.clear(0, n);
            for (int i = 0; i < n; i++) {
                x.argument(0, 1);
            }
            tell(x, 0, a(GO, 0));
            due("compute", x.compute(0), 1);
            due("the last place", x.state(0, 0, n - 1), 1);
            for (int place = n; place < 8; place++) {
                due("place " + place + " of " + n, x.state(0, 0, place), 0);
            }
        }
    }

    static void p11FromTheFirst() {
        sentence(11, "on the STACK: 100 and i, from the first one");
        ClosureFrames x = sample();
        due("the first", x.state(0, 5, 100), 2);
        due("the second", x.state(0, 5, 101), 12);
        due("the last", x.state(0, 5, 102), 4);
        ClosureFrames y = places(4);
        tell(y, 0, many(9, INT, a(NULL), a(GO, 10)));
        due("compute", y.compute(0), 1);
        due("the ninth", y.state(0, 10, 108), 1);
        due("the tenth", y.state(0, 10, 109), 4);
    }

    static void p11HowManyOnIt() {
        sentence(11, "99: how many there are on it");
        ClosureFrames x = sample();
        due("none", x.state(0, 0, 99), 0);
        due("a wide is one", x.state(0, 1, 99), 1);
        due("three", x.state(0, 5, 99), 3);
        ClosureFrames y = places(4);
        tell(y, 0, many(10, INT, a(GO, 10)));
        due("compute", y.compute(0), 1);
        due("ten", y.state(0, 10, 99), 10);
    }

    static void p11NoAct() {
        sentence(11, "BAD: no ACT");
        ClosureFrames x = sample();
        for (int act : new int[] {-1, 6, 39, 40, LOW, HIGH}) {
            due("act " + act, x.state(0, act, 0), BAD);
            due("act " + act + ", 99", x.state(0, act, 99), BAD);
            due("of a method without acts, act " + act, x.state(1, act, 0), BAD);
        }
        due("the last act", x.state(0, 5, 0), 12);
        x.clear(0, 2);
        tell(x, 0, a(GO, 0));
        x.compute(0);
        due("an act of what was told earlier", x.state(0, 1, 0), BAD);
    }

    static void p11NoSuchMethod() {
        sentence(11, "BAD -1: no such thing");
        ClosureFrames x = atBothEnds(sample());
        for (int m : NO_METHODS) {
            due("method " + m, x.state(m, 0, 0), BAD);
        }
        due("method 7", x.state(7, 0, 0), 0);
    }

    static void p11NoSuchPlace() {
        sentence(11, "a place none of 0 .. 7, 99, 100 .. 109");
        ClosureFrames x = sample();
        for (int place = -2; place < 120; place++) {
            boolean told = (place >= 0 && place < 8) || place == 99 || (place >= 100 && place < 110);
            due("without a state, place " + place, x.state(0, 4, place), told ? NONE : BAD);
        }
        for (int place : new int[] {-1, 8, 98, 110, LOW, HIGH, LOW + 99, LOW + 100}) {
            due("with a state, place " + place, x.state(0, 5, place), BAD);
        }
    }

    static void p11NotComputed() {
        sentence(11, "STATE -3: not computed since the METHOD changed");
        ClosureFrames x = places(2, 12);
        tell(x, 0, a(GO, 0));
        due("not yet", x.state(0, 0, 0), STATE);
        x.compute(0);
        due("computed", x.state(0, 0, 0), 12);
        x.cls(0, false);
        x.clear(1, 3);
        due("another method changed", x.state(0, 0, 0), 12);
        x.argument(0, 1);
        due("an argument", x.state(0, 0, 0), STATE);
        x.compute(0);
        due("computed", x.state(0, 0, 1), 1);
        x.guard(0, 5, 6, 0, 0);
        due("a guard", x.state(0, 0, 0), STATE);
        x.compute(0);
        x.act(0, GO, 0, 0);
        due("an act", x.state(0, 0, 0), STATE);
        x.compute(0);
        x.clear(0, 2);
        x.act(0, GO, 0, 0);
        due("cleared", x.state(0, 0, 0), STATE);
    }

    static void p11ByAFault() {
        sentence(11, "or by a FAULT");
        ClosureFrames x = byAFault();
        due("ahead of the fault", x.state(0, 0, 0), STATE);
        due("at it", x.state(0, 1, 99), STATE);
        ClosureFrames y = places(4, 1);
        tell(y, 0, a(GO, 0));
        y.compute(0);
        tell(y, 0, a(GO, 1));
        due("compute", y.compute(0), 1);
        y.guard(0, 0, 1, 39, 0);
        due("compute", y.compute(0), -10);
        due("computed at an earlier time", y.state(0, 0, 0), STATE);
    }

    static void p11NoState() {
        sentence(11, "NONE: the ACT has no STATE");
        ClosureFrames x = sample();
        for (int place : new int[] {0, 1, 2, 7, 99, 100, 109}) {
            due("place " + place, x.state(0, 4, place), NONE);
        }
        due("behind it there is one", x.state(0, 5, 0), 12);
        x.clear(0, 2);
        tell(x, 0, a(GO, 0), a(GO, 0), a(GO, 0), a(GO, 0), a(GO, 0));
        due("compute", x.compute(0), 1);
        due("a state of what was told earlier", x.state(0, 1, 0), NONE);
    }

    static void p11NoSuchI() {
        sentence(11, "BAD: no such i");
        ClosureFrames x = sample();
        for (int place = 103; place < 110; place++) {
            due("of three, place " + place, x.state(0, 5, place), BAD);
        }
        for (int place = 100; place < 110; place++) {
            due("of none, place " + place, x.state(0, 0, place), BAD);
        }
        due("of one", x.state(0, 1, 101), BAD);
    }

    static void p11Order() {
        sentence(11, "STATE; NONE: the ACT has no STATE; BAD: no such i");
        ClosureFrames x = places(2, 12);
        tell(x, 0, a(GO, 0), a(GO, 0));
        due("no act ahead of STATE", x.state(0, 2, 0), BAD);
        due("no place ahead of STATE", x.state(0, 0, 98), BAD);
        due("STATE ahead of no such i", x.state(0, 0, 109), STATE);
        due("STATE ahead of NONE", x.state(0, 1, 0), STATE);
        x.compute(0);
        due("no place ahead of NONE", x.state(0, 1, 110), BAD);
        due("NONE ahead of no such i", x.state(0, 1, 109), NONE);
        due("no such i", x.state(0, 0, 109), BAD);
    }

    static void p12ItsAct() {
        sentence(12, "98: its ACT");
        ClosureFrames x = places(4, 1);
        for (int p = 0; p < 40; p++) {
            tell(x, 0, a(GO, (p + 39) % 40));
        }
        due("compute", x.compute(0), 40);
        due("by acts: the first", x.frame(0, 0, 98), 0);
        due("by acts: the second", x.frame(0, 1, 98), 1);
        due("by acts: the last", x.frame(0, 39, 98), 39);
    }

    static void p12AsInState() {
        sentence(12, "Of FRAME k: place as in state()");
        ClosureFrames x = sample();
        for (int place = -1; place < 112; place++) {
            if (place != 98) {
                due("place " + place, x.frame(0, 0, place), x.state(0, 5, place));
            }
        }
        due("the first place", x.frame(0, 0, 0), 12);
        due("beyond its places", x.frame(0, 0, 2), 0);
        due("beyond its places", x.frame(0, 0, 7), 0);
        due("how many on the stack", x.frame(0, 0, 99), 3);
        due("the first on it", x.frame(0, 0, 100), 2);
        due("the last on it", x.frame(0, 0, 102), 4);
    }

    static void p12NoSuchMethod() {
        sentence(12, "BAD: METHOD");
        ClosureFrames x = atBothEnds(sample());
        for (int m : NO_METHODS) {
            due("method " + m, x.frame(m, 0, 98), BAD);
        }
        due("method 7", x.frame(7, 0, 98), 0);
    }

    static void p12NotComputed() {
        sentence(12, "BAD: METHOD; STATE");
        ClosureFrames x = sample();
        due("a method without acts", x.frame(1, 0, 98), STATE);
        due("STATE ahead of no such frame", x.frame(1, 40, 98), STATE);
        due("STATE ahead of no such place", x.frame(1, 0, 110), STATE);
        x.act(0, GO, 0, 0);
        due("changed", x.frame(0, 0, 98), STATE);
        due("by a fault", byAFault().frame(0, 0, 98), STATE);
    }

    static void p12NoSuchFrame() {
        sentence(12, "STATE; BAD: no such FRAME");
        ClosureFrames x = sample();
        for (int k : new int[] {-1, 1, 5, 40, LOW, HIGH}) {
            due("frame " + k, x.frame(0, k, 98), BAD);
            due("frame " + k, x.frame(0, k, 0), BAD);
        }
        tell(x, 1, a(INT), a(GIVE));
        due("compute", x.compute(1), 0);
        due("of none", x.frame(1, 0, 98), BAD);
        x.clear(0, 4);
        tell(x, 0, a(INT), a(POP), a(INT), a(POP), a(NULL), a(THROW));
        due("compute", x.compute(0), 0);
        due("a frame of what was told earlier", x.frame(0, 0, 98), BAD);
    }

    static void p12NoSuchPlace() {
        sentence(12, "BAD: no such FRAME, place");
        ClosureFrames x = sample();
        for (int place : new int[] {-1, 8, 97, 103, 109, 110, 111, LOW, HIGH, LOW + 98, LOW + 99}) {
            due("place " + place, x.frame(0, 0, place), BAD);
        }
    }

    /** Frames at acts that follow one another; places are planted so that each frame holds what is told. */
    private static ClosureFrames planted(int[] arguments, int[]... frames) {
        ClosureFrames x = places(8, arguments);
        for (int k = 0; k < frames.length; k++) {
            tell(x, 0, a(GO, k + 1));
        }
        tell(x, 0, a(NULL), a(THROW));
        due("compute", x.compute(0), frames.length);
        for (int k = 0; k < frames.length; k++) {
            for (int place = 0; place < 8; place++) {
                int type = place < frames[k].length ? frames[k][place] : 0;
                if (x.frame(0, k, place) != type) {
                    x.plant(0, k, place, type);
                }
                due("a frame of the test", x.frame(0, k, place), type);
            }
        }
        return x;
    }

    static void p13TheFirst() {
        sentence(13, "(the first: the beginning)");
        due("the same", planted(a(1, 1), a(1, 1)).form(0, 0), 0);
        due("less than the beginning", planted(a(1, 1), a(1)).form(0, 0), 21);
        due("none of three", planted(a(1, 10, 1), a()).form(0, 0), 23);
        due("more than the beginning", planted(a(), a(1)).form(0, 0), 31);
        due("another than the beginning", planted(a(10), a(11)).form(0, 0), 40);
        due("not the state of its act", formWithStack(2), 32);
    }

    static void p13TheOneBefore() {
        sentence(13, "The FORM of one, against the one before");
        ClosureFrames x = planted(a(1), a(1, 1, 1), a(1, 1, 1), a(1));
        due("two more than the beginning", x.form(0, 0), 32);
        due("as the one before", x.form(0, 1), 0);
        due("two less, as the beginning", x.form(0, 2), 22);
    }

    static void p13UpToTheLast() {
        sentence(13, "PLACES being told up to the last one that is not NOTHING");
        due("one at the end", planted(a(), a(0, 0, 1)).form(0, 0), 33);
        due("nothing between counts", planted(a(1), a(1, 0, 1)).form(0, 0), 32);
        due("four with nothing between", planted(a(1), a(1, 0, 0, 0, 1)).form(0, 0), 40);
        due("nothing at the end does not", planted(a(1), a(1, 0, 0, 0, 0, 0, 0, 0)).form(0, 0), 0);
        due("less, with nothing ahead of what goes", planted(a(1), a(1, 0, 0, 4), a(1)).form(0, 1), 23);
        due("in the last place", planted(a(1, 1, 1, 1, 1, 1, 1), a(1, 1, 1, 1, 1, 1, 1, 4)).form(0, 0), 31);
        due("all eight away", planted(a(1, 1, 1, 1, 1, 1, 1, 1), a()).form(0, 0), 40);
    }

    static void p13ARest() {
        sentence(13, "a REST not by itself");
        ClosureFrames x = places(8, 1);
        rightHere("wides", x, 3, a(WIDE), a(STORE, 1), a(WIDE), a(STORE, 3), a(WIDE), a(STORE, 5), a(GO, 7),
                a(WIDE), a(STORE, 5), a(GO, 10), a(INT), a(STORE, 7), a(GO, 13), a(GO, 13));
        due("three wides more", x.form(0, 0), 33);
        due("the same", x.form(0, 1), 0);
        due("one more behind a rest", x.form(0, 2), 31);
        ClosureFrames y = places(8, 1, 2, 2, 2);
        rightHere("wides away", y, 1, a(LOAD, 0), a(IF, 9), a(INT), a(STORE, 1), a(INT), a(STORE, 3), a(INT),
                a(STORE, 5), a(GO, 9), a(GO, 9));
        due("three wides less", y.form(0, 0), 23);
        ClosureFrames z = places(8, 2, 2, 2, 2);
        rightHere("four wides away", z, 1, a(INT), a(IF, 11), a(INT), a(STORE, 0), a(INT), a(STORE, 2), a(INT),
                a(STORE, 4), a(INT), a(STORE, 6), a(GO, 11), a(GO, 11));
        due("four wides less", z.form(0, 0), 40);
    }

    static void p13Same() {
        sentence(13, "0 SAME: PLACES are alike, the STACK is empty");
        due("no places", planted(a(), a()).form(0, 0), 0);
        int[] eight = {1, 4, 10, 15, 1, 1, 1, 1};
        due("eight places", planted(a(), eight, eight).form(0, 1), 0);
        due("the first is another", planted(a(), eight, a(4, 4, 10, 15, 1, 1, 1, 1)).form(0, 1), 40);
        due("the last is another", planted(a(), eight, a(1, 4, 10, 15, 1, 1, 1, 4)).form(0, 1), 40);
        due("an object and null are not alike", planted(a(10), a(4)).form(0, 0), 40);
    }

    /** The form of a frame with the acts' stack, and with as many ints in places as told more than the argument. */
    private static int formWithStack(int more, int... comes) {
        ClosureFrames x = places(8, 1);
        for (int i = 1; i <= more; i++) {
            tell(x, 0, a(INT), a(STORE, i));
        }
        for (int kind : comes) {
            tell(x, 0, a(kind));
        }
        int p = x.told(1);
        tell(x, 0, a(GO, p));
        due("compute", x.compute(0), 1);
        return x.form(0, 0);
    }

    static void p13One() {
        sentence(13, "1 ONE: alike, one on the STACK");
        due("none", formWithStack(0), 0);
        due("an int", formWithStack(0, INT), 1);
        due("a null", formWithStack(0, NULL), 1);
        due("a wide is one", formWithStack(0, WIDE), 1);
        due("two", formWithStack(0, INT, INT), 40);
        due("ten", formWithStack(0, WIDE, WIDE, WIDE, WIDE, INT, INT), 40);
        due("one, but places are not alike", formWithStack(1, INT), 40);
    }

    static void p13Less() {
        sentence(13, "20 + n: n (1 to 3) less at the end, the STACK empty");
        int[] four = {1, 1, 1, 1, 1};
        due("one", planted(a(), four, a(1, 1, 1, 1)).form(0, 1), 21);
        due("two", planted(a(), four, a(1, 1, 1)).form(0, 1), 22);
        due("three", planted(a(), four, a(1, 1)).form(0, 1), 23);
        due("four", planted(a(), four, a(1)).form(0, 1), 40);
        due("three of three", planted(a(), a(1, 4, 1), a()).form(0, 1), 23);
        due("less, and another", planted(a(), four, a(1, 4)).form(0, 1), 40);
        due("less, not at the end", planted(a(), four, a(0, 1, 1, 1, 1)).form(0, 1), 40);
        ClosureFrames x = places(4, 1, 1);
        x.guard(0, 0, 1, 2, 1);
        rightHere("a guard", x, 2, a(GO, 1), a(GO, 1), a(THROW, 1));
        due("one on the stack", x.form(0, 1), 1);
        x.plant(0, 1, 1, 0);
        due("less, and one on the stack", x.form(0, 1), 40);
    }

    static void p13More() {
        sentence(13, "30 + n: n more; 40 FULL");
        due("one", planted(a(1), a(1, 4)).form(0, 0), 31);
        due("two", planted(a(1), a(1, 4, 1)).form(0, 0), 32);
        due("three", planted(a(1), a(1, 4, 1, 10)).form(0, 0), 33);
        due("four", planted(a(1), a(1, 4, 1, 10, 1)).form(0, 0), 40);
        due("eight", planted(a(), a(1, 1, 1, 1, 1, 1, 1, 1)).form(0, 0), 40);
        due("three of none", planted(a(), a(1, 4, 1)).form(0, 0), 33);
        due("more, and another", planted(a(1), a(4, 1)).form(0, 0), 40);
        due("more, and one on the stack", formWithStack(3, NULL), 40);
        due("more, the stack empty", formWithStack(3), 33);
    }

    static void p13NoSuchMethod() {
        sentence(13, "FORM of FRAME k. BAD: METHOD");
        ClosureFrames x = atBothEnds(sample());
        for (int m : NO_METHODS) {
            due("method " + m, x.form(m, 0), BAD);
        }
        due("method 7", x.form(7, 0), 0);
    }

    static void p13NotComputed() {
        sentence(13, "BAD: METHOD; STATE");
        ClosureFrames x = sample();
        due("a method without acts", x.form(1, 0), STATE);
        due("STATE ahead of no such frame", x.form(1, 40), STATE);
        due("STATE ahead of no such frame", x.form(1, -1), STATE);
        x.guard(0, 0, 1, 0, 0);
        due("changed", x.form(0, 0), STATE);
        due("by a fault", byAFault().form(0, 0), STATE);
    }

    static void p13NoSuchFrame() {
        sentence(13, "STATE; BAD: no such FRAME");
        ClosureFrames x = sample();
        for (int k : new int[] {-1, 1, 40, LOW, HIGH}) {
            due("frame " + k, x.form(0, k), BAD);
        }
        due("frame 0", x.form(0, 0), 40);
        tell(x, 1, a(INT), a(GIVE));
        due("compute", x.compute(1), 0);
        due("of none", x.form(1, 0), BAD);
    }

    static void p14EachOnce() {
        sentence(14, "a GUARD that holds them (each once)");
        ClosureFrames x = places(4, 10);
        x.guard(0, 1, 3, 2, 0);
        x.guard(0, 1, 2, 2, 0);
        rightHere("two guards, a go and the guard of the act itself", x, 1, a(LOAD, 0), a(GO, 2), a(THROW));
        due("a go and two guards of one act, a guard of the other", x.shared(0, 2), 2);
        ClosureFrames y = withClasses();
        tell(y, 0, a(INT), a(SWITCH, 2, 39));
        for (int p = 2; p < 40; p++) {
            tell(y, 0, a(GO, 2));
        }
        due("compute", y.compute(0), 38);
        due("a switch and 38 goes", y.shared(0, 2), 39);
        due("a switch's last", y.shared(0, 39), 1);
    }

    static void p14WithAState() {
        sentence(14, "How many ACTS that have a STATE go to an ACT by GO, IF, SWITCH");
        ClosureFrames x = withClasses();
        x.guard(0, 3, 6, 0, 0);
        rightHere("acts without a state", x, 1, a(GO, 1), a(INT), a(GIVE), a(GO, 0), a(IF, 0), a(SWITCH, 0, 2));
        due("none goes to 0", x.shared(0, 0), 0);
        due("one goes to 1", x.shared(0, 1), 1);
        due("none goes to the next one", x.shared(0, 2), 0);
        due("an act without a state", x.shared(0, 3), 0);
        ClosureFrames y = right("an if to the next one", 4, 1, a(INT), a(IF, 2), a(INT), a(GIVE));
        due("an if to the next one", y.shared(0, 2), 1);
        due("itself", right("itself", 4, 1, a(GO, 0)).shared(0, 0), 1);
    }

    static void p14NoSuch() {
        sentence(14, "(each once). BAD");
        ClosureFrames x = atBothEnds(sample());
        for (int m : NO_METHODS) {
            due("method " + m, x.shared(m, 0), BAD);
        }
        for (int act : new int[] {-1, 6, 39, 40, LOW, HIGH}) {
            due("act " + act, x.shared(0, act), BAD);
        }
        due("the last act", x.shared(0, 5), 1);
        due("method 7", x.shared(7, 0), 1);
    }

    static void p14NotComputed() {
        sentence(14, "(each once). BAD; STATE");
        ClosureFrames x = places(4);
        due("no acts: BAD ahead of STATE", x.shared(0, 0), BAD);
        tell(x, 0, a(GO, 0));
        due("not yet", x.shared(0, 0), STATE);
        due("BAD ahead of STATE", x.shared(0, 1), BAD);
        x.compute(0);
        due("computed", x.shared(0, 0), 1);
        x.argument(0, 1);
        due("changed", x.shared(0, 0), STATE);
        due("by a fault", byAFault().shared(0, 1), STATE);
    }

    static void p15TheMost() {
        sentence(15, "The most that was on a STACK (what = 0), ahead of or behind an ACT with a STATE");
        due("none", right("none", 4, 1, a(GO, 0)).maximum(0, 0), 0);
        due("one", right("one", 4, 0, a(INT), a(GIVE)).maximum(0, 0), 1);
        due("ten", right("ten", 4, 1, many(10, INT, a(GO, 10))).maximum(0, 0), 10);
        ClosureFrames x = right("acts without a state", 4, 0, a(INT), a(GIVE), a(INT), a(INT), a(INT));
        due("acts without a state", x.maximum(0, 0), 1);
        ClosureFrames y = withClasses();
        y.guard(0, 0, 1, 1, 0);
        rightHere("a guard's object", y, 2, a(GO, 0), a(THROW));
        due("a guard's object", y.maximum(0, 0), 1);
    }

    static void p15WideCountsTwo() {
        sentence(15, "(a WIDE on the STACK counts 2)");
        due("one", right("one", 4, 1, a(WIDE), a(GO, 1)).maximum(0, 0), 2);
        due("five", right("five", 4, 1, many(5, WIDE, a(GO, 5))).maximum(0, 0), 10);
        due("a wide and an int", right("two", 4, 1, a(WIDE), a(INT), a(GO, 2)).maximum(0, 0), 3);
    }

    static void p15Places() {
        sentence(15, "how many PLACES are needed (1): those of ARGUMENTS, LOAD, STORE");
        due("none", right("none", 8, 1, a(GO, 0)).maximum(0, 1), 0);
        ClosureFrames x = places(8, 1, 2);
        rightHere("arguments", x, 1, a(GO, 0));
        due("arguments, a wide has two", x.maximum(0, 1), 3);
        for (int place = 0; place < 8; place++) {
            ClosureFrames y = places(8);
            rightHere("store", y, 0, a(INT), a(STORE, place), a(NULL), a(THROW));
            due("store " + place, y.maximum(0, 1), place + 1);
        }
        ClosureFrames z = places(8, 1, 1, 1);
        rightHere("fewer than arguments", z, 0, a(INT), a(STORE, 0), a(LOAD, 1), a(GIVE));
        due("fewer than arguments", z.maximum(0, 1), 3);
    }

    static void p15WideOneMore() {
        sentence(15, "STORE (of a WIDE one more)");
        for (int place = 0; place < 7; place++) {
            ClosureFrames x = places(8);
            rightHere("store", x, 0, a(WIDE), a(STORE, place), a(NULL), a(THROW));
            due("store " + place, x.maximum(0, 1), place + 2);
        }
    }

    static void p15WithAState() {
        sentence(15, "MORE of ACTS that have a STATE");
        ClosureFrames x = places(8, 1);
        rightHere("acts without a state", x, 0, a(LOAD, 0), a(GIVE), a(LOAD, 7), a(STORE, 6), a(MORE, 5));
        due("acts without a state", x.maximum(0, 1), 1);
        ClosureFrames y = places(8);
        rightHere("once more", y, 0, a(INT), a(STORE, 7), a(MORE, 7), a(LOAD, 7), a(GIVE));
        due("eight", y.maximum(0, 1), 8);
        due("one", y.maximum(0, 0), 1);
        y.clear(0, 8);
        rightHere("told anew", y, 1, a(GO, 0));
        due("nothing of what was told earlier", y.maximum(0, 1), 0);
        due("nothing of what was told earlier", y.maximum(0, 0), 0);
    }

    static void p15NoSuch() {
        sentence(15, "(a WIDE on the STACK counts 2). BAD");
        ClosureFrames x = atBothEnds(sample());
        for (int m : NO_METHODS) {
            due("method " + m, x.maximum(m, 0), BAD);
            due("method " + m, x.maximum(m, 1), BAD);
        }
        for (int what : new int[] {-1, 2, LOW, HIGH}) {
            due("what " + what, x.maximum(0, what), BAD);
        }
        due("0", x.maximum(0, 0), 4);
        due("1", x.maximum(0, 1), 1);
    }

    static void p15NotComputed() {
        sentence(15, "(a WIDE on the STACK counts 2). BAD; STATE");
        ClosureFrames x = places(4, 1);
        due("no acts", x.maximum(0, 0), STATE);
        tell(x, 0, a(GO, 0));
        due("not yet", x.maximum(0, 1), STATE);
        due("BAD ahead of STATE", x.maximum(0, 2), BAD);
        due("BAD ahead of STATE", x.maximum(0, -1), BAD);
        x.compute(0);
        due("computed", x.maximum(0, 1), 1);
        x.act(0, INT, 0, 0);
        due("changed", x.maximum(0, 0), STATE);
        due("by a fault", byAFault().maximum(0, 0), STATE);
        due("by a fault", byAFault().maximum(0, 1), STATE);
    }
}
