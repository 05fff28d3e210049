import java.util.ArrayList;
import java.util.Arrays;
import java.util.List;
import java.util.Random;
import java.util.TreeMap;
import java.util.TreeSet;

/**
 * Many runs of calls, always the same ones, against a second, plainer program.
 * Both are by one hand: this finds slips, not a document that was misread twice in the same way.
 */
public final class ModelTest {
    private static final int RUNS = 6000;
    private static final int BAD = -1, FULL = -2, STATE = -3, NONE = -4;

    /** Ends the model's computing or looking. */
    private static final class Fault extends RuntimeException {
        private static final long serialVersionUID = 1L;
        final int number;

        Fault(int number) {
            super(null, null, false, false);
            this.number = number;
        }
    }

    /** A state as two lists of types. */
    private static final class Held {
        final List<Integer> places;
        final List<Integer> stack;

        Held(List<Integer> places, List<Integer> stack) {
            this.places = new ArrayList<>(places);
            this.stack = new ArrayList<>(stack);
        }

        Held copy() {
            return new Held(places, stack);
        }

        boolean unmade() {
            return places.stream().anyMatch(t -> t >= 100) || stack.stream().anyMatch(t -> t >= 100);
        }

        boolean same(Held o) {
            return places.equals(o.places) && stack.equals(o.stack);
        }

        int room() {
            return stack.stream().mapToInt(t -> t == 2 ? 2 : 1).sum();
        }

        int get(int place) {
            if (place == 99) {
                return stack.size();
            }
            if (place >= 100) {
                return place - 100 < stack.size() ? stack.get(place - 100) : BAD;
            }
            return place < places.size() ? places.get(place) : 0;
        }

        /** Places up to the last that is not NOTHING, without RESTs. */
        List<Integer> listed() {
            List<Integer> l = new ArrayList<>(places);
            while (!l.isEmpty() && l.get(l.size() - 1) == 0) {
                l.remove(l.size() - 1);
            }
            l.removeIf(t -> t == 3);
            return l;
        }
    }

    private static final class Told {
        int places = 4;
        final List<Integer> arguments = new ArrayList<>();
        final List<int[]> acts = new ArrayList<>();
        final List<int[]> guards = new ArrayList<>();
        TreeMap<Integer, Held> states = null;
        TreeMap<Integer, Held> frames = null;

        int argumentPlaces() {
            return arguments.stream().mapToInt(t -> t == 2 ? 2 : 1).sum();
        }

        Held begin() {
            Held h = new Held(List.of(), List.of());
            for (int t : arguments) {
                h.places.add(t);
                if (t == 2) {
                    h.places.add(3);
                }
            }
            while (h.places.size() < places) {
                h.places.add(0);
            }
            return h;
        }

        List<Integer> jumps(int p) {
            int[] t = acts.get(p);
            List<Integer> l = new ArrayList<>();
            if (t[0] == 14 || t[0] == 15) {
                l.add(t[1]);
            }
            for (int i = t[1]; t[0] == 16 && i <= t[2]; i++) {
                l.add(i);
            }
            return l;
        }

        List<int[]> guardsOf(int p) {
            List<int[]> l = new ArrayList<>(guards);
            l.removeIf(g -> p < g[0] || p >= g[1]);
            return l;
        }

        boolean ends(int p) {
            return List.of(14, 16, 17, 18, 19).contains(acts.get(p)[0]);
        }
    }

    private static final class Model {
        final List<Integer> parents = new ArrayList<>(List.of(-1));
        final List<Boolean> faces = new ArrayList<>(List.of(false));
        final Told[] methods = new Told[8];
        int fault = 0;
        int where = 0;

        Model() {
            Arrays.setAll(methods, i -> new Told());
        }

        boolean cl(int c) {
            return c >= 0 && c < parents.size();
        }

        Told m(int i) {
            return i >= 0 && i < 8 ? methods[i] : null;
        }

        int cls(int parent, boolean face) {
            if (!cl(parent) || faces.get(parent) || (face && parent != 0)) {
                return BAD;
            }
            if (parents.size() == 16) {
                return FULL;
            }
            parents.add(parent);
            faces.add(face);
            return parents.size() - 1;
        }

        List<Integer> ancestors(int c) {
            List<Integer> l = new ArrayList<>();
            for (int i = c; i >= 0; i = parents.get(i)) {
                l.add(i);
            }
            return l;
        }

        int joinClass(int a, int b) {
            if (a == b) {
                return a;
            }
            if (faces.get(a) || faces.get(b)) {
                return 0;
            }
            List<Integer> l = ancestors(a);
            l.retainAll(ancestors(b));
            return l.get(0);
        }

        boolean isClass(int a, int b) {
            return b == 0 || faces.get(b) || ancestors(a).contains(b);
        }

        static boolean object(int t) {
            return t >= 10 && t < 100;
        }

        int join(int a, int b) {
            if (a == b) {
                return a;
            }
            if (object(a) && object(b)) {
                return 10 + joinClass(a - 10, b - 10);
            }
            return a == 4 && object(b) ? b : b == 4 && object(a) ? a : 0;
        }

        boolean fits(int t, int want) {
            return t == want || want == 0
                    || (object(want) && (t == 4 || (object(t) && isClass(t - 10, want - 10))));
        }

        boolean fits(Held t, Held want) {
            boolean ok = t.stack.size() == want.stack.size();
            for (int i = 0; ok && i < t.stack.size(); i++) {
                ok = fits(t.stack.get(i), want.stack.get(i));
            }
            for (int i = 0; ok && i < t.places.size(); i++) {
                ok = fits(t.places.get(i), want.places.get(i));
            }
            return ok;
        }

        static int pull(Held h) {
            if (h.stack.isEmpty()) {
                throw new Fault(1);
            }
            return h.stack.remove(h.stack.size() - 1);
        }

        static void want(Held h, int type) {
            if (pull(h) != type) {
                throw new Fault(2);
            }
        }

        void wantObject(Held h, int c) {
            int t = pull(h);
            if (t != 4 && !(object(t) && isClass(t - 10, c))) {
                throw new Fault(2);
            }
        }

        void put(Held h, int x, int t) {
            if (h.places.get(x) == 3) {
                h.places.set(x - 1, 0);
            }
            if (h.places.get(x) == 2) {
                h.places.set(x + 1, 0);
            }
            h.places.set(x, t);
        }

        void doAct(Told m, int p, Held h) {
            int kind = m.acts.get(p)[0];
            int a = m.acts.get(p)[1];
            if ((kind == 3 || kind == 4 || kind == 20) && a >= m.places) {
                throw new Fault(7);
            }
            if (kind <= 2) {
                h.stack.add(kind == 0 ? 1 : kind == 1 ? 2 : 4);
            } else if (kind == 3) {
                int t = h.places.get(a);
                if (t == 0 || t == 3) {
                    throw new Fault(7);
                }
                h.stack.add(t);
            } else if (kind == 4) {
                int t = pull(h);
                if (t == 2 && a + 1 >= m.places) {
                    throw new Fault(7);
                }
                put(h, a, t);
                if (t == 2) {
                    put(h, a + 1, 3);
                    h.places.set(a, 2);
                }
            } else if (kind == 5) {
                pull(h);
            } else if (kind == 6) {
                int t = pull(h);
                h.stack.add(t);
                h.stack.add(t);
            } else if (kind == 7 || kind == 8) {
                want(h, kind - 6);
                want(h, kind - 6);
                h.stack.add(kind - 6);
            } else if (kind == 9) {
                h.stack.add(100 + p);
            } else if (kind == 10) {
                int t = pull(h);
                if (t < 100 || m.acts.get(t - 100)[1] != a) {
                    throw new Fault(2);
                }
                h.places.replaceAll(u -> u == t ? 10 + a : u);
                h.stack.replaceAll(u -> u == t ? 10 + a : u);
            } else if (kind == 11) {
                wantObject(h, a);
                h.stack.add(1);
            } else if (kind == 12) {
                want(h, 1);
                wantObject(h, a);
                h.stack.add(10 + a);
            } else if (kind == 13) {
                wantObject(h, 0);
                h.stack.add(10 + a);
            } else if (kind == 15 || kind == 16 || kind == 17) {
                want(h, 1);
            } else if (kind == 18 || kind == 19) {
                wantObject(h, a);
            } else if (kind == 20 && h.places.get(a) != 1) {
                throw new Fault(7);
            }
            if (h.room() > 10) {
                throw new Fault(3);
            }
        }

        Held guarded(Held h, int c) {
            Held g = h.copy();
            g.places.replaceAll(t -> t >= 100 ? 0 : t);
            g.stack.clear();
            g.stack.add(10 + c);
            return g;
        }

        void go(Told m, TreeMap<Integer, Held> states, TreeSet<Integer> due, int p, int to, Held h, boolean guard) {
            if (to >= m.acts.size()) {
                throw new Fault(5);
            }
            if (!guard && to <= p && h.unmade()) {
                throw new Fault(6);
            }
            Held old = states.get(to);
            if (old == null) {
                states.put(to, h.copy());
                due.add(to);
                return;
            }
            if (old.stack.size() != h.stack.size()) {
                throw new Fault(4);
            }
            Held joint = old.copy();
            for (int i = 0; i < h.stack.size(); i++) {
                joint.stack.set(i, join(old.stack.get(i), h.stack.get(i)));
                if (joint.stack.get(i) == 0) {
                    throw new Fault(2);
                }
            }
            for (int i = 0; i < h.places.size(); i++) {
                joint.places.set(i, join(old.places.get(i), h.places.get(i)));
            }
            if (!joint.same(old)) {
                states.put(to, joint);
                due.add(to);
            }
        }

        int compute(int i) {
            Told m = m(i);
            if (m == null || m.acts.isEmpty()) {
                return BAD;
            }
            m.states = null;
            m.frames = null;
            TreeMap<Integer, Held> states = new TreeMap<>();
            TreeSet<Integer> due = new TreeSet<>();
            states.put(0, m.begin());
            due.add(0);
            int p = 0;
            try {
                while (!due.isEmpty()) {
                    p = due.pollFirst();
                    Held h = states.get(p).copy();
                    for (int[] g : m.guardsOf(p)) {
                        go(m, states, due, p, g[2], guarded(h, g[3]), true);
                    }
                    doAct(m, p, h);
                    if (!m.ends(p)) {
                        go(m, states, due, p, p + 1, h, false);
                    }
                    for (int to : m.jumps(p)) {
                        go(m, states, due, p, to, h, false);
                    }
                }
            } catch (Fault f) {
                fault = f.number;
                return -10 - p;
            }
            fault = 0;
            m.states = states;
            m.frames = new TreeMap<>();
            for (int q : states.keySet()) {
                m.jumps(q).forEach(to -> m.frames.put(to, states.get(to).copy()));
                m.guardsOf(q).forEach(g -> m.frames.put(g[2], states.get(g[2]).copy()));
            }
            return m.frames.size();
        }

        void meets(Told m, Held h, int to) {
            if (m.frames.get(to) == null) {
                throw new Fault(8);
            }
            if (!fits(h, m.frames.get(to))) {
                throw new Fault(9);
            }
        }

        void look(Told m) {
            Held h = m.begin();
            for (int p = 0; p < m.acts.size(); p++) {
                where = p;
                Held f = m.frames.get(p);
                if (f != null && h != null && !fits(h, f)) {
                    throw new Fault(9);
                }
                h = f != null ? f.copy() : h;
                if (h == null) {
                    throw new Fault(8);
                }
                for (int[] g : m.guardsOf(p)) {
                    meets(m, guarded(h, g[3]), g[2]);
                }
                doAct(m, p, h);
                for (int to : m.jumps(p)) {
                    if (to >= m.acts.size()) {
                        throw new Fault(5);
                    }
                    if (to <= p && h.unmade()) {
                        throw new Fault(6);
                    }
                    meets(m, h, to);
                }
                h = m.ends(p) ? null : h;
            }
            if (h != null) {
                throw new Fault(5);
            }
        }

        int verify(int i) {
            Told m = m(i);
            if (m == null || m.states == null) {
                return m == null ? BAD : STATE;
            }
            try {
                look(m);
            } catch (Fault f) {
                fault = f.number;
                return -10 - where;
            }
            fault = 0;
            return 0;
        }

        int clear(int i, int n) {
            if (m(i) == null || n < 1 || n > 8) {
                return BAD;
            }
            int had = methods[i].acts.size();
            methods[i] = new Told();
            methods[i].places = n;
            return had;
        }

        int argument(int i, int type) {
            Told m = m(i);
            if (m == null || (type != 1 && type != 2 && !cl(type - 10))) {
                return BAD;
            }
            int used = m.argumentPlaces();
            if (used + (type == 2 ? 2 : 1) > m.places) {
                return FULL;
            }
            m.arguments.add(type);
            m.states = null;
            return used;
        }

        int act(int i, int kind, int a, int b) {
            Told m = m(i);
            if (m == null || kind < 0 || kind > 20) {
                return BAD;
            }
            boolean place = List.of(3, 4, 20).contains(kind);
            boolean clazz = List.of(9, 10, 11, 12, 13, 18, 19).contains(kind);
            boolean jump = List.of(14, 15, 16).contains(kind);
            if ((place && (a < 0 || a > 7)) || (clazz && !cl(a)) || (jump && (a < 0 || a > 39))
                    || (kind == 16 && (b < a || b > 39))) {
                return BAD;
            }
            if (m.acts.size() == 40) {
                return FULL;
            }
            m.acts.add(new int[] {kind, a, b});
            m.states = null;
            return m.acts.size() - 1;
        }

        int guard(int i, int from, int to, int at, int c) {
            Told m = m(i);
            if (m == null || from < 0 || to > 40 || from >= to || at < 0 || at > 39 || !cl(c)) {
                return BAD;
            }
            if (m.guards.size() == 4) {
                return FULL;
            }
            m.guards.add(new int[] {from, to, at, c});
            m.states = null;
            return m.guards.size() - 1;
        }

        static boolean askable(int place) {
            return (place >= 0 && place <= 7) || (place >= 99 && place <= 109);
        }

        int state(int i, int act, int place) {
            Told m = m(i);
            if (m == null || act < 0 || act >= m.acts.size() || !askable(place)) {
                return BAD;
            }
            if (m.states == null) {
                return STATE;
            }
            return m.states.get(act) == null ? NONE : m.states.get(act).get(place);
        }

        static Integer frameAct(Told m, int k) {
            List<Integer> l = new ArrayList<>(m.frames.keySet());
            return k >= 0 && k < l.size() ? l.get(k) : null;
        }

        int frame(int i, int k, int place) {
            Told m = m(i);
            if (m == null || m.states == null) {
                return m == null ? BAD : STATE;
            }
            Integer act = frameAct(m, k);
            if (act == null || (place != 98 && !askable(place))) {
                return BAD;
            }
            return place == 98 ? act : m.frames.get(act).get(place);
        }

        int form(int i, int k) {
            Told m = m(i);
            if (m == null || m.states == null) {
                return m == null ? BAD : STATE;
            }
            Integer act = frameAct(m, k);
            if (act == null) {
                return BAD;
            }
            Held now = m.frames.get(act);
            List<Integer> old = (k == 0 ? m.begin() : m.frames.get(frameAct(m, k - 1))).listed();
            List<Integer> list = now.listed();
            int stack = now.stack.size();
            if (old.equals(list) && stack <= 1) {
                return stack;
            }
            int n = list.size() - old.size();
            int least = Math.min(list.size(), old.size());
            boolean near = stack == 0 && n != 0 && Math.abs(n) <= 3
                    && old.subList(0, least).equals(list.subList(0, least));
            return !near ? 40 : n < 0 ? 20 - n : 30 + n;
        }

        int shared(int i, int act) {
            Told m = m(i);
            if (m == null || act < 0 || act >= m.acts.size()) {
                return BAD;
            }
            if (m.states == null) {
                return STATE;
            }
            int n = 0;
            for (int p : m.states.keySet()) {
                n += m.jumps(p).contains(act) || m.guardsOf(p).stream().anyMatch(g -> g[2] == act) ? 1 : 0;
            }
            return n;
        }

        int maximum(int i, int what) {
            Told m = m(i);
            if (m == null || what < 0 || what > 1) {
                return BAD;
            }
            if (m.states == null) {
                return STATE;
            }
            int stack = 0;
            int places = m.argumentPlaces();
            for (int p : m.states.keySet()) {
                Held h = m.states.get(p).copy();
                int[] t = m.acts.get(p);
                int wide = t[0] == 4 && h.stack.get(h.stack.size() - 1) == 2 ? 1 : 0;
                stack = Math.max(stack, h.room());
                doAct(m, p, h);
                stack = Math.max(stack, h.room());
                if (t[0] == 3 || t[0] == 4 || t[0] == 20) {
                    places = Math.max(places, t[1] + 1 + wide);
                }
            }
            return what == 0 ? stack : places;
        }

        int plant(int i, int k, int place, int type) {
            Told m = m(i);
            boolean good = type == 0 || type == 1 || type == 4 || cl(type - 10);
            if (m == null || !good || !askable(place) || place == 99) {
                return BAD;
            }
            if (m.states == null) {
                return STATE;
            }
            Integer act = frameAct(m, k);
            if (act == null) {
                return BAD;
            }
            Held f = m.frames.get(act);
            List<Integer> row = place >= 100 ? f.stack : f.places;
            int at = place >= 100 ? place - 100 : place;
            if (at >= row.size() || (place >= 100 && type == 0) || row.get(at) == 2 || row.get(at) == 3) {
                return BAD;
            }
            return row.set(at, type);
        }

        int told(int what) {
            if (what == 0) {
                return parents.size();
            }
            Told m = what < 0 || what > 40 ? null : m(what % 10 - 1);
            if (m == null) {
                return BAD;
            }
            int frames = m.states == null ? NONE : m.frames.size();
            return new int[] {m.acts.size(), m.guards.size(), m.places, frames}[what / 10];
        }
    }

    private static int wrong = 0;
    private static int calls = 0;
    private static final int[] FAULTS = new int[10];
    private static final int[] LOOKED = new int[10];
    private static final TreeSet<Integer> FORMS = new TreeSet<>();

    private static int check(int run, String call, int got, int want) {
        calls++;
        if (got != want) {
            wrong++;
            if (wrong < 50) {
                System.out.println("run " + run + ": " + call + " answered " + got + ", due is " + want);
            }
        }
        return want;
    }

    public static void main(String[] args) {
        for (int run = 0; run < RUNS; run++) {
            oneRun(run, new Random(run * 7919L + 17));
        }
        covered();
        System.out.println(calls + " calls, " + wrong + " not as the model answers; faults of compute "
                + Arrays.toString(FAULTS) + ", of verify " + Arrays.toString(LOOKED) + ", forms " + FORMS);
        if (wrong != 0) {
            System.exit(1);
        }
    }

    /** A run that never meets a rule does not test it. */
    private static void covered() {
        for (int f = 0; f <= 7; f++) {
            if (FAULTS[f] == 0) {
                wrong++;
                System.out.println("no run has fault " + f + " of compute");
            }
        }
        for (int f : new int[] {0, 2, 7, 8, 9}) {
            if (LOOKED[f] == 0) {
                wrong++;
                System.out.println("no run has fault " + f + " of verify");
            }
        }
        for (int f : new int[] {0, 1, 21, 22, 23, 31, 32, 33, 40}) {
            if (!FORMS.contains(f)) {
                wrong++;
                System.out.println("no run has form " + f);
            }
        }
    }

    private static void oneRun(int run, Random r) {
        ClosureFrames x = new ClosureFrames();
        Model y = new Model();
        int classes = r.nextInt(7);
        for (int i = 0; i < classes; i++) {
            boolean face = r.nextInt(4) == 0;
            int parent = face && r.nextInt(9) != 0 ? 0 : r.nextInt(i + 2);
            check(run, "cls(" + parent + ", " + face + ")", x.cls(parent, face), y.cls(parent, face));
        }
        for (int round = 0; round < 3; round++) {
            int m = r.nextInt(8);
            tellMethod(run, r, x, y, m);
            int c = check(run, "compute(" + m + ")", x.compute(m), y.compute(m));
            FAULTS[check(run, "fault()", x.fault(), y.fault)]++;
            if (c >= 0) {
                askAll(run, x, y, m);
                lookAround(run, r, x, y, m, c);
            }
            askAtRandom(run, r, x, y);
        }
    }

    private static void tellMethod(int run, Random r, ClosureFrames x, Model y, int m) {
        int places = 1 + r.nextInt(8);
        check(run, "clear(" + m + ", " + places + ")", x.clear(m, places), y.clear(m, places));
        for (int i = r.nextInt(5); i > 0; i--) {
            int type = r.nextInt(3) == 0 ? 2 : r.nextBoolean() ? 1 : 10 + r.nextInt(y.parents.size());
            check(run, "argument(" + m + ", " + type + ")", x.argument(m, type), y.argument(m, type));
        }
        int n = 1 + r.nextInt(r.nextInt(4) == 0 ? 40 : 14);
        for (int i = r.nextInt(6) - 3; i > 0; i--) {
            int from = r.nextInt(n);
            int to = from + 1 + r.nextInt(n);
            int at = r.nextInt(n);
            int c = r.nextInt(y.parents.size());
            check(run, "guard(" + m + ", " + from + ", " + to + ", " + at + ", " + c + ")",
                    x.guard(m, from, to, at, c), y.guard(m, from, to, at, c));
        }
        Held guess = y.methods[m].begin();
        for (int p = 0; p < n; p++) {
            guess = tellAct(run, r, x, y, m, p, n, guess);
        }
    }

    /** Tries some acts and tells the first one that the model can do to a guessed state: most methods go far so. */
    private static Held tellAct(int run, Random r, ClosureFrames x, Model y, int m, int p, int n, Held guess) {
        Told told = y.methods[m];
        int kind = 0;
        int a = 0;
        int b = 0;
        Held after = guess;
        for (int i = 0; i < 12; i++) {
            kind = p == n - 1 && i < 11 ? new int[] {14, 17, 18, 19}[r.nextInt(4)] : r.nextInt(21);
            boolean jump = kind >= 14 && kind <= 16;
            int c = y.parents.size();
            a = jump ? r.nextInt(n) : kind >= 9 && kind != 17 && kind != 20 ? r.nextInt(c) : r.nextInt(told.places);
            b = kind == 16 ? Math.min(39, a + r.nextInt(3)) : r.nextInt();
            after = guess.copy();
            told.acts.add(new int[] {kind, a, b});
            boolean works = true;
            try {
                y.doAct(told, p, after);
            } catch (Fault f) {
                works = false;
            }
            told.acts.remove(p);
            if (works && (kind < 17 || kind == 20 || r.nextInt(3) == 0 || p == n - 1) || r.nextInt(150) == 0) {
                break;
            }
            after = guess;
        }
        check(run, "act(" + m + ", " + kind + ", " + a + ", " + b + ")", x.act(m, kind, a, b), y.act(m, kind, a, b));
        return after;
    }

    private static void askAll(int run, ClosureFrames x, Model y, int m) {
        for (int p = -1; p <= 40; p++) {
            for (int place : new int[] {0, 1, 2, 3, 4, 5, 6, 7, 8, 97, 98, 99, 100, 101, 102, 105, 109, 110}) {
                check(run, "state(" + m + ", " + p + ", " + place + ")", x.state(m, p, place), y.state(m, p, place));
                check(run, "frame(" + m + ", " + p + ", " + place + ")", x.frame(m, p, place), y.frame(m, p, place));
            }
            FORMS.add(check(run, "form(" + m + ", " + p + ")", x.form(m, p), y.form(m, p)));
            check(run, "shared(" + m + ", " + p + ")", x.shared(m, p), y.shared(m, p));
        }
        for (int what = -1; what < 3; what++) {
            check(run, "maximum(" + m + ", " + what + ")", x.maximum(m, what), y.maximum(m, what));
        }
    }

    private static void lookAround(int run, Random r, ClosureFrames x, Model y, int m, int frames) {
        check(run, "verify(" + m + ")", x.verify(m), y.verify(m));
        LOOKED[check(run, "fault()", x.fault(), y.fault)]++;
        for (int i = 0; i < 12; i++) {
            int k = r.nextInt(frames + 1);
            int place = r.nextInt(4) == 0 ? 100 + r.nextInt(3) : r.nextInt(9);
            int type = new int[] {0, 0, 1, 4, 10 + r.nextInt(y.parents.size()), r.nextInt(120)}[r.nextInt(6)];
            check(run, "plant(" + m + ", " + k + ", " + place + ", " + type + ")", x.plant(m, k, place, type),
                    y.plant(m, k, place, type));
            check(run, "verify(" + m + ")", x.verify(m), y.verify(m));
            LOOKED[check(run, "fault()", x.fault(), y.fault)]++;
            for (int f = 0; f < frames; f++) {
                FORMS.add(check(run, "form(" + m + ", " + f + ")", x.form(m, f), y.form(m, f)));
            }
            if (r.nextInt(4) == 0) {
                check(run, "compute(" + m + ")", x.compute(m), y.compute(m));
            }
        }
        askAll(run, x, y, m);
    }

    private static int odd(Random r) {
        int[] odd = {Integer.MIN_VALUE, Integer.MAX_VALUE, -1, -10, 40, 41, 98, 99, 100, 109, 110, 139};
        return r.nextInt(5) == 0 ? odd[r.nextInt(odd.length)] : r.nextInt(10);
    }

    private static void askAtRandom(int run, Random r, ClosureFrames x, Model y) {
        for (int i = 0; i < 20; i++) {
            int a = odd(r);
            int b = odd(r);
            int c = odd(r);
            int d = odd(r);
            int e = odd(r);
            String with = "(" + a + ", " + b + ", " + c + ", " + d + ", " + e + ")";
            check(run, "joined" + with, x.joined(a, b), !y.cl(a) || !y.cl(b) ? BAD : y.joinClass(a, b));
            check(run, "is" + with, x.is(a, b), !y.cl(a) || !y.cl(b) ? BAD : y.isClass(a, b) ? 1 : 0);
            check(run, "state" + with, x.state(a, b, c), y.state(a, b, c));
            check(run, "frame" + with, x.frame(a, b, c), y.frame(a, b, c));
            check(run, "form" + with, x.form(a, b), y.form(a, b));
            check(run, "shared" + with, x.shared(a, b), y.shared(a, b));
            check(run, "maximum" + with, x.maximum(a, b), y.maximum(a, b));
            check(run, "plant" + with, x.plant(a, b, c, d), y.plant(a, b, c, d));
            check(run, "verify" + with, x.verify(a), y.verify(a));
            check(run, "fault()", x.fault(), y.fault);
            if (r.nextInt(8) == 0) {
                check(run, "guard" + with, x.guard(a, b, c, d, e), y.guard(a, b, c, d, e));
                check(run, "argument" + with, x.argument(a, b), y.argument(a, b));
                check(run, "act" + with, x.act(a, b, c, d), y.act(a, b, c, d));
                check(run, "compute" + with, x.compute(a), y.compute(a));
                check(run, "cls" + with, x.cls(a, b > 5), y.cls(a, b > 5));
                check(run, "clear" + with, x.clear(a, b), y.clear(a, b));
            }
        }
        for (int what = -1; what <= 41; what++) {
            check(run, "told(" + what + ")", x.told(what), y.told(what));
        }
    }
}
