/** Frames of small methods: computed, brought into their least form, and looked at in one pass. */
public final class ClosureFrames {
    public static final int BAD = -1, FULL = -2, STATE = -3, NONE = -4;

    private static final int CLASSES = 16, METHODS = 8, PLACES = 8, ACTS = 40, GUARDS = 4, DEPTH = 10;
    private static final int ROOT = 0;
    private static final int PLACES_AT_FIRST = 4;

    // Types. OBJECT and UNMADE are the first of a row of numbers, one for each class or act.
    private static final int NOTHING = 0, INT = 1, WIDE = 2, REST = 3, NULL = 4, OBJECT = 10, UNMADE = 100;
    private static final int MISSING = -1;

    // Kinds of acts.
    private static final int PUSH_INT = 0, PUSH_WIDE = 1, PUSH_NULL = 2, LOAD = 3, STORE = 4, POP = 5, TWICE = 6,
            ADD = 7, ADD_WIDE = 8, NEW = 9, MAKE = 10, FIELD = 11, CALL = 12, CAST = 13, GO = 14, IF = 15,
            SWITCH = 16, GIVE = 17, GIVE_OBJECT = 18, THROW = 19, MORE = 20;

    // Faults; RIGHT is none.
    private static final int RIGHT = 0, EMPTY = 1, TYPE = 2, DEEP = 3, HEIGHT = 4, END = 5, UNMADE_BACK = 6,
            NO_PLACE = 7, NO_FRAME = 8, UNFIT = 9;
    private static final int NOWHERE = -1;
    private static final int FAULT_AT = -10;

    // What state() and frame() can be asked beside a place.
    private static final int ASK_ACT = 98, ASK_HEIGHT = 99, ASK_STACK = 100;

    private static final int FORM_SAME = 0, FORM_ONE = 1, FORM_LESS = 20, FORM_MORE = 30, FORM_FULL = 40;
    private static final int FORM_REACH = 3;

    private static final int TOLD_ACTS = 1, TOLD_GUARDS = 11, TOLD_PLACES = 21, TOLD_FRAMES = 31;

    // Far above what 40 acts can need: a state of 18 types can change some 300 times at most.
    private static final int ROUNDS = 1000000;

    private final ClassTree tree;
    private final Method[] methods;
    private final Computing computing;
    private final Looking looking;
    private int lastFault;

    public ClosureFrames() {
        tree = new ClassTree();
        methods = new Method[METHODS];
        for (int i = 0; i < METHODS; i++) {
            methods[i] = new Method();
        }
        Worker worker = new Worker(tree);
        computing = new Computing(tree, worker);
        looking = new Looking(tree, worker);
        lastFault = RIGHT;
    }

    public int cls(int parent, boolean face) {
        if (!tree.has(parent) || tree.isFace(parent) || (face && parent != ROOT)) {
            return BAD;
        }
        return tree.add(parent, face);
    }

    public int joined(int a, int b) {
        return tree.has(a) && tree.has(b) ? tree.nearest(a, b) : BAD;
    }

    public int is(int a, int b) {
        if (!tree.has(a) || !tree.has(b)) {
            return BAD;
        }
        return tree.isKindOf(a, b) ? 1 : 0;
    }

    public int clear(int method, int n) {
        Method m = methodAt(method);
        if (m == null || n < 1 || n > PLACES) {
            return BAD;
        }
        int had = m.actCount;
        m.empty(n);
        return had;
    }

    public int argument(int method, int type) {
        Method m = methodAt(method);
        if (m == null || !(type == INT || type == WIDE || tree.isKnownObject(type))) {
            return BAD;
        }
        return m.addArgument(type);
    }

    public int act(int method, int kind, int a, int b) {
        Method m = methodAt(method);
        if (m == null || !isAct(kind, a, b)) {
            return BAD;
        }
        return m.addAct(kind, a, b);
    }

    public int guard(int method, int from, int to, int at, int cls) {
        Method m = methodAt(method);
        if (m == null || from < 0 || from >= to || to > ACTS || !isActNumber(at) || !tree.has(cls)) {
            return BAD;
        }
        return m.addGuard(from, to, at, cls);
    }

    public int compute(int method) {
        Method m = methodAt(method);
        if (m == null || m.actCount == 0) {
            return BAD;
        }
        int at = computing.run(m);
        lastFault = computing.fault;
        return at == NOWHERE ? m.frameCount() : FAULT_AT - at;
    }

    public int fault() {
        return lastFault;
    }

    public int state(int method, int act, int place) {
        Method m = methodAt(method);
        if (m == null) {
            return BAD;
        }
        Act asked = m.actAt(act);
        if (asked == null || !(isPlace(place) || isOnStack(place) || place == ASK_HEIGHT)) {
            return BAD;
        }
        if (!m.computed) {
            return STATE;
        }
        return asked.reached ? asked.before.answer(place) : NONE;
    }

    public int frame(int method, int k, int place) {
        Method m = methodAt(method);
        if (m == null) {
            return BAD;
        }
        if (!m.computed) {
            return STATE;
        }
        int at = m.actOfFrame(k);
        Act framed = m.actAt(at);
        if (framed == null) {
            return BAD;
        }
        return place == ASK_ACT ? at : framed.frame.answer(place);
    }

    public int form(int method, int k) {
        Method m = methodAt(method);
        if (m == null) {
            return BAD;
        }
        if (!m.computed) {
            return STATE;
        }
        Act framed = m.actAt(m.actOfFrame(k));
        if (framed == null) {
            return BAD;
        }
        Act earlier = m.actAt(m.actOfFrame(k - 1));
        return framed.frame.formAgainst(earlier == null ? m.beginning : earlier.frame);
    }

    public int shared(int method, int act) {
        Method m = methodAt(method);
        if (m == null || m.actAt(act) == null) {
            return BAD;
        }
        return m.computed ? m.countSources(act) : STATE;
    }

    public int maximum(int method, int what) {
        Method m = methodAt(method);
        if (m == null || what < 0 || what > 1) {
            return BAD;
        }
        if (!m.computed) {
            return STATE;
        }
        return what == 0 ? m.mostStack : m.mostPlaces;
    }

    public int plant(int method, int k, int place, int type) {
        Method m = methodAt(method);
        boolean typeIsKnown = type == NOTHING || type == INT || type == NULL || tree.isKnownObject(type);
        if (m == null || !typeIsKnown || !(isPlace(place) || isOnStack(place))) {
            return BAD;
        }
        if (!m.computed) {
            return STATE;
        }
        Act framed = m.actAt(m.actOfFrame(k));
        if (framed == null) {
            return BAD;
        }
        return isPlace(place) ? plantPlace(m, framed.frame, place, type)
                : plantStack(framed.frame, place - ASK_STACK, type);
    }

    public int verify(int method) {
        Method m = methodAt(method);
        if (m == null) {
            return BAD;
        }
        if (!m.computed) {
            return STATE;
        }
        int at = looking.run(m);
        lastFault = looking.fault;
        return at == NOWHERE ? 0 : FAULT_AT - at;
    }

    public int told(int what) {
        if (what == 0) {
            return tree.count;
        }
        if (isAskedFrom(TOLD_ACTS, what)) {
            return toldActs(what - TOLD_ACTS);
        }
        if (isAskedFrom(TOLD_GUARDS, what)) {
            return toldGuards(what - TOLD_GUARDS);
        }
        if (isAskedFrom(TOLD_PLACES, what)) {
            return toldPlaces(what - TOLD_PLACES);
        }
        return isAskedFrom(TOLD_FRAMES, what) ? toldFrames(what - TOLD_FRAMES) : BAD;
    }

    private static boolean isAskedFrom(int first, int what) {
        return what >= first && what < first + METHODS;
    }

    private int toldActs(int method) {
        Method m = methodAt(method);
        return m == null ? BAD : m.actCount;
    }

    private int toldGuards(int method) {
        Method m = methodAt(method);
        return m == null ? BAD : m.guardCount;
    }

    private int toldPlaces(int method) {
        Method m = methodAt(method);
        return m == null ? BAD : m.placeCount;
    }

    private int toldFrames(int method) {
        Method m = methodAt(method);
        if (m == null) {
            return BAD;
        }
        return m.computed ? m.frameCount() : NONE;
    }

    private Method methodAt(int method) {
        return method >= 0 && method < METHODS ? methods[method] : null;
    }

    private static boolean isPlace(int place) {
        return place >= 0 && place < PLACES;
    }

    private static boolean isOnStack(int place) {
        return place >= ASK_STACK && place < ASK_STACK + DEPTH;
    }

    private static boolean isActNumber(int act) {
        return act >= 0 && act < ACTS;
    }

    private boolean isAct(int kind, int a, int b) {
        switch (kind) {
            case PUSH_INT:
            case PUSH_WIDE:
            case PUSH_NULL:
            case POP:
            case TWICE:
            case ADD:
            case ADD_WIDE:
            case GIVE:
                return true;
            case LOAD:
            case STORE:
            case MORE:
                return isPlace(a);
            case NEW:
            case MAKE:
            case FIELD:
            case CALL:
            case CAST:
            case GIVE_OBJECT:
            case THROW:
                return tree.has(a);
            case GO:
            case IF:
                return isActNumber(a);
            case SWITCH:
                return isActNumber(a) && isActNumber(b) && a <= b;
            default:
                return false;
        }
    }

    private static int plantPlace(Method m, Snapshot frame, int place, int type) {
        int was = frame.inPlace(place);
        if (place >= m.placeCount || was == WIDE || was == REST) {
            return BAD;
        }
        frame.setPlace(place, type);
        return was;
    }

    private static int plantStack(Snapshot frame, int i, int type) {
        int was = frame.onStack(i);
        if (was == MISSING || was == WIDE || type == NOTHING) {
            return BAD;
        }
        frame.setStack(i, type);
        return was;
    }

    /** The classes, and the rules of types that rest on them. */
    private static final class ClassTree {
        // A bit for each class that is this one or above it.
        private final int[] lines = new int[CLASSES];
        private final boolean[] faces = new boolean[CLASSES];
        int count = 0;

        ClassTree() {
            lines[ROOT] = 1 << ROOT;
            count = 1;
        }

        boolean has(int c) {
            return c >= 0 && c < count;
        }

        boolean isFace(int c) {
            return has(c) && faces[c];
        }

        int add(int parent, boolean face) {
            if (!has(parent)) {
                return BAD;
            }
            if (count >= CLASSES) {
                return FULL;
            }
            lines[count] = lines[parent] | (1 << count);
            faces[count] = face;
            count++;
            return count - 1;
        }

        /** A class has a greater number than those above it, so that the nearest is the greatest in common. */
        int nearest(int a, int b) {
            if (a == b) {
                return a;
            }
            if (a < 0 || a >= count || b < 0 || b >= count || faces[a] || faces[b]) {
                return ROOT;
            }
            int common = lines[a] & lines[b];
            for (int c = count - 1; c > ROOT; c--) {
                if ((common & (1 << c)) != 0) {
                    return c;
                }
            }
            return ROOT;
        }

        boolean isKindOf(int a, int b) {
            if (a < 0 || a >= count || b < 0 || b >= count) {
                return false;
            }
            return faces[b] || (lines[a] & (1 << b)) != 0;
        }

        boolean isKnownObject(int type) {
            return type >= OBJECT && type < OBJECT + count;
        }

        int joinTypes(int a, int b) {
            if (a == b) {
                return a;
            }
            boolean objectA = isKnownObject(a);
            boolean objectB = isKnownObject(b);
            if (objectA && objectB) {
                return OBJECT + nearest(a - OBJECT, b - OBJECT);
            }
            if (a == NULL && objectB) {
                return b;
            }
            return b == NULL && objectA ? a : NOTHING;
        }

        /** Whether a type may stand where an object of class c, or NULL, is wanted. */
        boolean isObjectFor(int type, int c) {
            return type == NULL || isKindOf(type - OBJECT, c);
        }

        boolean fitsType(int type, int wanted) {
            if (type == wanted || wanted == NOTHING) {
                return true;
            }
            return type == NULL ? isKnownObject(wanted) : isKindOf(type - OBJECT, wanted - OBJECT);
        }

        boolean fitsAll(Snapshot given, Snapshot wanted) {
            if (given.height != wanted.height) {
                return false;
            }
            for (int x = 0; x < PLACES; x++) {
                if (!fitsType(given.inPlace(x), wanted.inPlace(x))) {
                    return false;
                }
            }
            for (int i = 0; i < given.height; i++) {
                if (!fitsType(given.onStack(i), wanted.onStack(i))) {
                    return false;
                }
            }
            return true;
        }
    }

    /** What the places and the stack hold at one point of a method. */
    private static final class Snapshot {
        private final int[] places = new int[PLACES];
        private final int[] stack = new int[DEPTH];
        int height = 0;

        void empty() {
            for (int x = 0; x < PLACES; x++) {
                places[x] = NOTHING;
            }
            height = 0;
        }

        void become(Snapshot other) {
            System.arraycopy(other.places, 0, places, 0, PLACES);
            System.arraycopy(other.stack, 0, stack, 0, DEPTH);
            height = other.height;
        }

        int inPlace(int x) {
            return x >= 0 && x < PLACES ? places[x] : NOTHING;
        }

        void setPlace(int x, int type) {
            if (x >= 0 && x < PLACES) {
                places[x] = type;
            }
        }

        int onStack(int i) {
            return i >= 0 && i < height && i < DEPTH ? stack[i] : MISSING;
        }

        void setStack(int i, int type) {
            if (i >= 0 && i < height && i < DEPTH) {
                stack[i] = type;
            }
        }

        /** What the stack takes of the room that it may have. */
        int weight() {
            int sum = 0;
            for (int i = 0; i < height && i < DEPTH; i++) {
                sum += stack[i] == WIDE ? 2 : 1;
            }
            return sum;
        }

        int push(int type) {
            int more = type == WIDE ? 2 : 1;
            if (weight() + more > DEPTH) {
                return DEEP;
            }
            height++;
            setStack(height - 1, type);
            return RIGHT;
        }

        int top() {
            return onStack(height - 1);
        }

        int pop() {
            int type = onStack(height - 1);
            if (type != MISSING) {
                height--;
            }
            return type;
        }

        void store(int x, int type) {
            breakWideAt(x);
            if (type == WIDE) {
                breakWideAt(x + 1);
                setPlace(x + 1, REST);
            }
            setPlace(x, type);
        }

        /** Half of a WIDE cannot stay when the other half is written over. */
        private void breakWideAt(int x) {
            if (inPlace(x) == REST) {
                setPlace(x - 1, NOTHING);
            }
            if (inPlace(x) == WIDE) {
                setPlace(x + 1, NOTHING);
            }
        }

        void replace(int old, int type) {
            for (int x = 0; x < PLACES; x++) {
                if (inPlace(x) == old) {
                    setPlace(x, type);
                }
            }
            for (int i = 0; i < height; i++) {
                if (onStack(i) == old) {
                    setStack(i, type);
                }
            }
        }

        boolean hasUnmade() {
            for (int x = 0; x < PLACES; x++) {
                if (inPlace(x) >= UNMADE) {
                    return true;
                }
            }
            for (int i = 0; i < height; i++) {
                if (onStack(i) >= UNMADE) {
                    return true;
                }
            }
            return false;
        }

        /** Becomes what a guard hands on of another one. */
        void becomeCaught(Snapshot other, int c) {
            become(other);
            for (int x = 0; x < PLACES; x++) {
                if (inPlace(x) >= UNMADE) {
                    setPlace(x, NOTHING);
                }
            }
            height = 0;
            push(OBJECT + c);
        }

        int answer(int place) {
            if (isPlace(place)) {
                return inPlace(place);
            }
            if (place == ASK_HEIGHT) {
                return height;
            }
            int type = isOnStack(place) ? onStack(place - ASK_STACK) : MISSING;
            return type == MISSING ? BAD : type;
        }

        /** How many places there are up to the last one that is not NOTHING. */
        private int end() {
            int end = 0;
            for (int x = 0; x < PLACES; x++) {
                if (inPlace(x) != NOTHING) {
                    end = x + 1;
                }
            }
            return end;
        }

        private boolean isLikeUpTo(Snapshot other, int end) {
            for (int x = 0; x < end; x++) {
                if (inPlace(x) != other.inPlace(x)) {
                    return false;
                }
            }
            return true;
        }

        /** A REST is told with its WIDE, not by itself. */
        private int countTold(int from, int to) {
            int n = 0;
            for (int x = from; x < to; x++) {
                if (inPlace(x) != REST) {
                    n++;
                }
            }
            return n;
        }

        int formAgainst(Snapshot earlier) {
            int end = end();
            int earlierEnd = earlier.end();
            if (!isLikeUpTo(earlier, Math.min(end, earlierEnd))) {
                return FORM_FULL;
            }
            if (end == earlierEnd && height == 1) {
                return FORM_ONE;
            }
            if (height != 0) {
                return FORM_FULL;
            }
            if (end == earlierEnd) {
                return FORM_SAME;
            }
            boolean less = end < earlierEnd;
            int n = less ? earlier.countTold(end, earlierEnd) : countTold(earlierEnd, end);
            if (n > FORM_REACH) {
                return FORM_FULL;
            }
            return (less ? FORM_LESS : FORM_MORE) + n;
        }
    }

    /** An act, with the state ahead of it and its frame. */
    private static final class Act {
        int kind, a, b;
        boolean reached, due, framed;
        final Snapshot before = new Snapshot();
        final Snapshot frame = new Snapshot();

        void tell(int newKind, int newA, int newB) {
            kind = newKind;
            a = newA;
            b = newB;
        }

        void forget() {
            reached = false;
            due = false;
            framed = false;
        }

        private boolean jumps() {
            return kind == GO || kind == IF || kind == SWITCH;
        }

        /** What an act that does not jump was told as a and b can be any number: it must not be a target. */
        int firstTarget() {
            return jumps() ? a : 0;
        }

        /** Below the first one if the act does not jump. */
        int lastTarget() {
            if (!jumps()) {
                return NOWHERE;
            }
            return kind == SWITCH ? b : a;
        }

        boolean goesOnAt(int act) {
            return act >= firstTarget() && act <= lastTarget();
        }

        boolean goesToNext() {
            return kind != GO && kind != SWITCH && kind != GIVE && kind != GIVE_OBJECT && kind != THROW;
        }

        boolean usesPlace() {
            return kind == LOAD || kind == STORE || kind == MORE;
        }
    }

    /** A guard over the acts from one up to ahead of another. */
    private static final class Guard {
        int from, to, at, cls;

        boolean holds(int act) {
            return act >= from && act < to;
        }
    }

    /** A method as it was told, and what was computed of it. */
    private static final class Method {
        private final Act[] acts = new Act[ACTS];
        private final Guard[] guards = new Guard[GUARDS];
        final Snapshot beginning = new Snapshot();
        int actCount = 0, guardCount = 0, placeCount = PLACES_AT_FIRST, argumentPlaces = 0;
        boolean computed = false;
        int mostStack = 0, mostPlaces = 0;

        void empty(int n) {
            beginning.empty();
            actCount = 0;
            guardCount = 0;
            placeCount = n;
            argumentPlaces = 0;
            computed = false;
        }

        int addArgument(int type) {
            int size = type == WIDE ? 2 : 1;
            if (argumentPlaces + size > placeCount) {
                return FULL;
            }
            int place = argumentPlaces;
            beginning.store(place, type);
            argumentPlaces += size;
            computed = false;
            return place;
        }

        /** Acts that a clear() left behind are used again, so that the room of an object is bounded. */
        int addAct(int kind, int a, int b) {
            if (actCount >= ACTS) {
                return FULL;
            }
            Act added = acts[actCount];
            if (added == null) {
                added = new Act();
                acts[actCount] = added;
            }
            added.tell(kind, a, b);
            actCount++;
            computed = false;
            return actCount - 1;
        }

        int addGuard(int from, int to, int at, int cls) {
            if (guardCount >= GUARDS) {
                return FULL;
            }
            Guard added = guards[guardCount];
            if (added == null) {
                added = new Guard();
                guards[guardCount] = added;
            }
            added.from = from;
            added.to = to;
            added.at = at;
            added.cls = cls;
            guardCount++;
            computed = false;
            return guardCount - 1;
        }

        Act actAt(int act) {
            return act >= 0 && act < actCount ? acts[act] : null;
        }

        /** Guard i if it holds an act; else null. */
        Guard guardOver(int i, int act) {
            Guard found = i >= 0 && i < guardCount ? guards[i] : null;
            return found != null && found.holds(act) ? found : null;
        }

        boolean hasPlace(int x) {
            return x >= 0 && x < placeCount;
        }

        boolean isUnmadeOf(int type, int c) {
            Act maker = actAt(type - UNMADE);
            return maker != null && maker.kind == NEW && maker.a == c;
        }

        void forgetComputed() {
            computed = false;
            mostStack = 0;
            mostPlaces = argumentPlaces;
            for (int p = 0; p < actCount; p++) {
                Act each = actAt(p);
                if (each != null) {
                    each.forget();
                }
            }
        }

        int leastDue() {
            for (int p = 0; p < actCount; p++) {
                Act each = actAt(p);
                if (each != null && each.due) {
                    return p;
                }
            }
            return NOWHERE;
        }

        void noteStack(Snapshot s) {
            mostStack = Math.max(mostStack, s.weight());
        }

        void notePlaces(Act done, Snapshot behind) {
            if (done.usesPlace()) {
                int wideMore = behind.inPlace(done.a) == WIDE ? 1 : 0;
                mostPlaces = Math.max(mostPlaces, done.a + 1 + wideMore);
            }
        }

        /** Whether act p goes to another one in a way that asks for a frame there. */
        private boolean leads(int p, int to) {
            Act source = actAt(p);
            if (source == null || !source.reached) {
                return false;
            }
            if (source.goesOnAt(to)) {
                return true;
            }
            for (int i = 0; i < guardCount; i++) {
                Guard over = guardOver(i, p);
                if (over != null && over.at == to) {
                    return true;
                }
            }
            return false;
        }

        int countSources(int to) {
            int n = 0;
            for (int p = 0; p < actCount; p++) {
                if (leads(p, to)) {
                    n++;
                }
            }
            return n;
        }

        void setFrames() {
            for (int p = 0; p < actCount; p++) {
                Act each = actAt(p);
                if (each != null && each.reached && countSources(p) > 0) {
                    each.framed = true;
                    each.frame.become(each.before);
                }
            }
        }

        int frameCount() {
            int n = 0;
            for (int p = 0; p < actCount; p++) {
                Act each = actAt(p);
                if (each != null && each.framed) {
                    n++;
                }
            }
            return n;
        }

        int actOfFrame(int k) {
            int n = 0;
            for (int p = 0; p < actCount; p++) {
                Act each = actAt(p);
                if (each != null && each.framed) {
                    if (n == k) {
                        return p;
                    }
                    n++;
                }
            }
            return NOWHERE;
        }
    }

    /** Does to a state what an act tells; each of its methods answers a fault. */
    private static final class Worker {
        private final ClassTree tree;

        Worker(ClassTree classes) {
            tree = classes;
        }

        int perform(Method method, int p, Act act, Snapshot s) {
            switch (act.kind) {
                case PUSH_INT:
                    return s.push(INT);
                case PUSH_WIDE:
                    return s.push(WIDE);
                case PUSH_NULL:
                    return s.push(NULL);
                case LOAD:
                    return load(method, act.a, s);
                case STORE:
                    return store(method, act.a, s);
                case POP:
                    return s.pop() == MISSING ? EMPTY : RIGHT;
                case TWICE:
                    return s.top() == MISSING ? EMPTY : s.push(s.top());
                case ADD:
                    return add(s, INT);
                case ADD_WIDE:
                    return add(s, WIDE);
                case NEW:
                    return s.push(UNMADE + p);
                case MAKE:
                    return make(method, act.a, s);
                case FIELD:
                    return pushUnless(takeObject(s, act.a), s, INT);
                case CALL:
                    return callOn(s, act.a);
                case CAST:
                    return pushUnless(takeObject(s, ROOT), s, OBJECT + act.a);
                case IF:
                case SWITCH:
                case GIVE:
                    return take(s, INT);
                case GIVE_OBJECT:
                case THROW:
                    return takeObject(s, act.a);
                case MORE:
                    return method.hasPlace(act.a) && s.inPlace(act.a) == INT ? RIGHT : NO_PLACE;
                default:
                    return RIGHT;
            }
        }

        private int load(Method method, int x, Snapshot s) {
            int type = s.inPlace(x);
            if (!method.hasPlace(x) || type == NOTHING || type == REST) {
                return NO_PLACE;
            }
            return s.push(type);
        }

        private int store(Method method, int x, Snapshot s) {
            if (!method.hasPlace(x)) {
                return NO_PLACE;
            }
            int type = s.pop();
            if (type == MISSING) {
                return EMPTY;
            }
            if (type == WIDE && !method.hasPlace(x + 1)) {
                return NO_PLACE;
            }
            s.store(x, type);
            return RIGHT;
        }

        private int take(Snapshot s, int wanted) {
            int type = s.pop();
            if (type == MISSING) {
                return EMPTY;
            }
            return type == wanted ? RIGHT : TYPE;
        }

        private int takeObject(Snapshot s, int c) {
            int type = s.pop();
            if (type == MISSING) {
                return EMPTY;
            }
            return tree.isObjectFor(type, c) ? RIGHT : TYPE;
        }

        private int pushUnless(int fault, Snapshot s, int type) {
            return fault == RIGHT ? s.push(type) : fault;
        }

        private int add(Snapshot s, int type) {
            int fault = take(s, type);
            if (fault == RIGHT) {
                fault = take(s, type);
            }
            return pushUnless(fault, s, type);
        }

        private int callOn(Snapshot s, int c) {
            int fault = take(s, INT);
            if (fault == RIGHT) {
                fault = takeObject(s, c);
            }
            return pushUnless(fault, s, OBJECT + c);
        }

        private int make(Method method, int c, Snapshot s) {
            int type = s.pop();
            if (type == MISSING) {
                return EMPTY;
            }
            if (!method.isUnmadeOf(type, c)) {
                return TYPE;
            }
            s.replace(type, OBJECT + c);
            return RIGHT;
        }
    }

    /** Finds the least states of a method's acts, and its frames. */
    private static final class Computing {
        private final ClassTree tree;
        private final Worker worker;
        private final Snapshot taken = new Snapshot();
        private final Snapshot caught = new Snapshot();
        int fault = RIGHT;

        Computing(ClassTree classes, Worker doer) {
            tree = classes;
            worker = doer;
        }

        /** Answers the act of the fault, or NOWHERE. */
        int run(Method method) {
            method.forgetComputed();
            fault = arrive(method, NOWHERE, 0, method.beginning);
            int p = method.leastDue();
            for (int i = 0; i < ROUNDS && p != NOWHERE; i++) {
                fault = workOn(method, p);
                if (fault != RIGHT) {
                    return p;
                }
                p = method.leastDue();
            }
            method.setFrames();
            method.computed = true;
            return NOWHERE;
        }

        private int workOn(Method method, int p) {
            Act act = method.actAt(p);
            if (act == null) {
                return END;
            }
            act.due = false;
            // Later arrivals may change the act's own state while it is worked.
            taken.become(act.before);
            method.noteStack(taken);
            int found = sendToGuards(method, p);
            if (found == RIGHT) {
                found = worker.perform(method, p, act, taken);
            }
            if (found != RIGHT) {
                return found;
            }
            method.noteStack(taken);
            method.notePlaces(act, taken);
            return sendOn(method, p, act);
        }

        private int sendToGuards(Method method, int p) {
            for (int i = 0; i < method.guardCount; i++) {
                Guard over = method.guardOver(i, p);
                if (over != null) {
                    caught.becomeCaught(taken, over.cls);
                    int found = arrive(method, p, over.at, caught);
                    if (found != RIGHT) {
                        return found;
                    }
                }
            }
            return RIGHT;
        }

        private int sendOn(Method method, int p, Act act) {
            int found = act.goesToNext() ? arrive(method, p, p + 1, taken) : RIGHT;
            int last = act.lastTarget();
            for (int to = act.firstTarget(); to <= last && found == RIGHT; to++) {
                found = arrive(method, p, to, taken);
            }
            return found;
        }

        /** What a guard hands on has no UNMADE, so that the test for it need not know of guards. */
        private int arrive(Method method, int p, int at, Snapshot s) {
            Act to = method.actAt(at);
            if (to == null) {
                return END;
            }
            if (at <= p && s.hasUnmade()) {
                return UNMADE_BACK;
            }
            if (!to.reached) {
                to.before.become(s);
                to.reached = true;
                to.due = true;
                return RIGHT;
            }
            return merge(to, s);
        }

        private int merge(Act to, Snapshot s) {
            Snapshot old = to.before;
            if (old.height != s.height) {
                return HEIGHT;
            }
            for (int i = 0; i < s.height; i++) {
                int was = old.onStack(i);
                int type = tree.joinTypes(was, s.onStack(i));
                if (type == NOTHING) {
                    return TYPE;
                }
                to.due = to.due || type != was;
                old.setStack(i, type);
            }
            for (int x = 0; x < PLACES; x++) {
                int was = old.inPlace(x);
                int type = tree.joinTypes(was, s.inPlace(x));
                to.due = to.due || type != was;
                old.setPlace(x, type);
            }
            return RIGHT;
        }
    }

    /** Looks in one pass whether the frames of a method are right. */
    private static final class Looking {
        private final ClassTree tree;
        private final Worker worker;
        private final Snapshot current = new Snapshot();
        private final Snapshot caught = new Snapshot();
        private boolean present = false;
        int fault = RIGHT;

        Looking(ClassTree classes, Worker doer) {
            tree = classes;
            worker = doer;
        }

        /** Answers the act of the fault, or NOWHERE. */
        int run(Method method) {
            current.become(method.beginning);
            present = true;
            for (int p = 0; p < method.actCount; p++) {
                fault = lookAt(method, p);
                if (fault != RIGHT) {
                    return p;
                }
            }
            fault = present ? END : RIGHT;
            return present ? method.actCount - 1 : NOWHERE;
        }

        private int lookAt(Method method, int p) {
            Act act = method.actAt(p);
            if (act == null) {
                return END;
            }
            int found = takeFrame(act);
            if (found == RIGHT) {
                found = lookAtGuards(method, p);
            }
            if (found == RIGHT) {
                found = worker.perform(method, p, act, current);
            }
            if (found == RIGHT) {
                found = lookAtTargets(method, p, act);
            }
            present = act.goesToNext();
            return found;
        }

        private int takeFrame(Act act) {
            if (!act.framed) {
                return present ? RIGHT : NO_FRAME;
            }
            if (present && !tree.fitsAll(current, act.frame)) {
                return UNFIT;
            }
            current.become(act.frame);
            return RIGHT;
        }

        private int lookAtGuards(Method method, int p) {
            for (int i = 0; i < method.guardCount; i++) {
                Guard over = method.guardOver(i, p);
                if (over != null) {
                    caught.becomeCaught(current, over.cls);
                    int found = meet(method.actAt(over.at), caught);
                    if (found != RIGHT) {
                        return found;
                    }
                }
            }
            return RIGHT;
        }

        private int lookAtTargets(Method method, int p, Act act) {
            int last = act.lastTarget();
            for (int at = act.firstTarget(); at <= last; at++) {
                Act to = method.actAt(at);
                if (to == null) {
                    return END;
                }
                if (at <= p && current.hasUnmade()) {
                    return UNMADE_BACK;
                }
                int found = meet(to, current);
                if (found != RIGHT) {
                    return found;
                }
            }
            return RIGHT;
        }

        private int meet(Act to, Snapshot s) {
            if (to == null || !to.framed) {
                return NO_FRAME;
            }
            return tree.fitsAll(s, to.frame) ? RIGHT : UNFIT;
        }
    }
}
