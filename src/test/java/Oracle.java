import java.util.ArrayList;
import java.util.Arrays;
import java.util.HashMap;
import java.util.HashSet;
import java.util.List;
import java.util.Map;
import java.util.NoSuchElementException;
import java.util.Set;
import java.util.TreeMap;
import java.util.regex.Matcher;
import java.util.regex.Pattern;

/**
 * The document again, written another way: the world is an object graph that is made anew by telling all acts
 * from the start (so undo drops the last act told), and what would be is found by doing it in such a world.
 */
final class Oracle {
    static final int NONE = -1;
    static final int NOBODY = 65534;
    static final List<String> ACTS = List.of("fork", "user", "numbers", "mounts", "map", "become", "mount", "enter",
        "end", "kill", "share");

    static final class Space {
        final int index;
        final Space parent;
        final int keeper;
        final List<int[]> ranges = new ArrayList<>();
        final int[] things = new int[8];
        boolean shared;
        boolean hadInit;
        Proc init;
        int last = 1;

        Space(int index, Space parent, int keeper) {
            this.index = index;
            this.parent = parent;
            this.keeper = keeper;
        }

        int depth() {
            return parent == null ? 0 : parent.depth() + 1;
        }

        boolean in(Space outer) {
            return this == outer || parent != null && parent.in(outer);
        }

        boolean dead() {
            return hadInit && init == null;
        }
    }

    static final class Proc {
        int index;
        Proc parent;
        Space ns;
        Space us;
        Space ms;
        Space child;
        int id;
        boolean power;
        final Map<Space, Integer> numbers = new HashMap<>();
    }

    static final class World {
        final TreeMap<Integer, Proc> procs = new TreeMap<>();
        final List<Space> ns = new ArrayList<>();
        final List<Space> us = new ArrayList<>();
        final List<Space> ms = new ArrayList<>();

        World() {
            ns.add(new Space(0, null, 0));
            us.add(new Space(0, null, 0));
            ms.add(new Space(0, null, 0));
            Proc first = new Proc();
            first.parent = first;
            first.ns = ns.get(0);
            first.child = ns.get(0);
            first.us = us.get(0);
            first.ms = ms.get(0);
            first.power = true;
            first.numbers.put(ns.get(0), 1);
            ns.get(0).hadInit = true;
            ns.get(0).init = first;
            procs.put(0, first);
        }

        int inside(Space u, int id) {
            if (u.parent == null) {
                return id;
            }
            int there = inside(u.parent, id);
            for (int[] r : u.ranges) {
                if (there != NOBODY && r[1] <= there && there <= r[1] + r[2] - 1) {
                    return there - r[1] + r[0];
                }
            }
            return NOBODY;
        }

        int outside(Space u, int id) {
            for (int root = 0; root < 100; root++) {
                if (inside(u, root) == id) {
                    return root;
                }
            }
            return NOBODY;
        }

        boolean over(Proc p, Space u) {
            if (u == null) {
                return false;
            }
            if (u == p.us) {
                return p.power;
            }
            return u.parent == p.us && u.keeper == p.id || over(p, u.parent);
        }

        boolean sees(Proc p, Proc q) {
            return q.numbers.containsKey(p.ns);
        }

        boolean canKill(Proc p, Proc q) {
            return sees(p, q) && (p.id == q.id || over(p, q.us)) && q.index != 0 && p.ns.init != q;
        }

        boolean canEnter(Proc p, Proc q, int kind) {
            if (p == q || !sees(p, q)) {
                return false;
            }
            if (kind == 1) {
                return over(p, q.us) && p.us != q.us;
            }
            if (kind == 0) {
                return over(p, us.get(q.ns.keeper)) && q.ns.in(p.ns) && !q.ns.dead() && p.child != q.ns;
            }
            return kind == 2 && p.power && over(p, us.get(q.ms.keeper)) && p.ms != q.ms;
        }

        Set<Proc> spill(Proc p) {
            Set<Proc> fall = new HashSet<>();
            if (p.index == 0) {
                return fall;
            }
            fall.add(p);
            if (p.ns.init == p) {
                for (Proc q : procs.values()) {
                    if (q.ns.in(p.ns)) {
                        fall.add(q);
                    }
                }
            }
            return fall;
        }

        Set<Space> spreads(Space m) {
            Set<Space> all = new HashSet<>();
            all.add(m);
            if (m.shared) {
                for (Space inner : ms) {
                    if (inner.parent == m) {
                        all.addAll(spreads(inner));
                    }
                }
            }
            return all;
        }

        int act(String act, int... o) {
            Proc p = procs.get(o[0]);
            if (p == null) {
                return NONE;
            }
            switch (act) {
                case "fork": return fork(p);
                case "user": case "numbers": case "mounts": return create(p, act);
                case "map": return map(p, o[1], o[2], o[3], o[4]);
                case "become": return become(p, o[1]);
                case "mount": return mount(p, o[1], o[2]);
                case "enter": return enter(p, procs.get(o[1]), o[2]);
                case "end": return end(p);
                case "kill":
                    Proc q = procs.get(o[1]);
                    return q != null && canKill(p, q) ? end(q) : NONE;
                default:
                    if (!over(p, us.get(p.ms.keeper))) {
                        return NONE;
                    }
                    p.ms.shared = !p.ms.shared;
                    return p.ms.shared ? 1 : 0;
            }
        }

        int number(Space s, boolean isTarget) {
            if (isTarget && !s.hadInit) {
                return 1;
            }
            Set<Integer> taken = new HashSet<>();
            for (Proc p : procs.values()) {
                taken.add(p.numbers.getOrDefault(s, 0));
            }
            List<Integer> order = new ArrayList<>();
            for (int n = s.last + 1; n <= 20; n++) {
                order.add(n);
            }
            for (int n = 2; n <= s.last; n++) {
                order.add(n);
            }
            order.removeAll(taken);
            return order.isEmpty() ? NONE : order.get(0);
        }

        int fork(Proc p) {
            if (procs.size() == 16 || p.child.dead()) {
                return NONE;
            }
            Proc c = new Proc();
            for (Space s = p.child; s != null; s = s.parent) {
                int n = number(s, s == p.child);
                if (n == NONE) {
                    return NONE;
                }
                c.numbers.put(s, n);
            }
            while (procs.containsKey(c.index)) {
                c.index++;
            }
            c.numbers.forEach((s, n) -> s.last = n);
            c.parent = p;
            c.ns = p.child;
            c.child = p.child;
            c.us = p.us;
            c.ms = p.ms;
            c.id = p.id;
            c.power = p.power;
            if (!c.ns.hadInit) {
                c.ns.hadInit = true;
                c.ns.init = c;
            }
            procs.put(c.index, c);
            return c.index;
        }

        int create(Proc p, String act) {
            List<Space> all = act.equals("user") ? us : act.equals("numbers") ? ns : ms;
            Space outer = act.equals("user") ? p.us : act.equals("numbers") ? p.ns : p.ms;
            if (all.size() == 8 || outer.depth() == 4) {
                return NONE;
            }
            if (!act.equals("user") && !p.power || act.equals("numbers") && p.child != p.ns) {
                return NONE;
            }
            Space s = new Space(all.size(), outer, act.equals("user") ? p.id : p.us.index);
            all.add(s);
            if (act.equals("user")) {
                p.us = s;
                p.power = true;
            } else if (act.equals("numbers")) {
                p.child = s;
            } else {
                System.arraycopy(p.ms.things, 0, s.things, 0, 8);
                p.ms = s;
            }
            return s.index;
        }

        int map(Proc p, int space, int in, int out, int many) {
            if (space < 1 || space >= us.size() || in < 0 || out < 0 || many < 1 || in > 99 || out > 99 || many > 99) {
                return NONE;
            }
            Space u = us.get(space);
            if (in + many > 100 || out + many > 100 || u.ranges.size() == 3) {
                return NONE;
            }
            for (int k = 0; k < many; k++) {
                for (int[] r : u.ranges) {
                    boolean hitsIn = in + k >= r[0] && in + k < r[0] + r[2];
                    boolean hitsOut = out + k >= r[1] && out + k < r[1] + r[2];
                    if (hitsIn || hitsOut) {
                        return NONE;
                    }
                }
                if (outside(u.parent, out + k) == NOBODY) {
                    return NONE;
                }
            }
            boolean own = many == 1 && p.id == u.keeper && inside(u.parent, p.id) == out;
            if (!over(p, u.parent) && !own) {
                return NONE;
            }
            u.ranges.add(new int[] {in, out, many});
            u.ranges.sort((a, b) -> a[0] - b[0]);
            return u.ranges.size();
        }

        int become(Proc p, int id) {
            if (!p.power || id < 0 || id > 99 || outside(p.us, id) == NOBODY) {
                return NONE;
            }
            p.id = outside(p.us, id);
            p.power = id == 0;
            return p.id;
        }

        int mount(Proc p, int place, int thing) {
            if (place < 0 || place > 7 || thing < 0 || thing > 99 || !over(p, us.get(p.ms.keeper))
                || p.ms.things[place] == thing) {
                return NONE;
            }
            int old = p.ms.things[place];
            for (Space m : spreads(p.ms)) {
                m.things[place] = thing;
            }
            return old;
        }

        int enter(Proc p, Proc q, int kind) {
            if (q == null || !canEnter(p, q, kind)) {
                return NONE;
            }
            if (kind == 0) {
                p.child = q.ns;
                return q.ns.index;
            }
            if (kind == 1) {
                p.us = q.us;
                p.power = true;
                return q.us.index;
            }
            p.ms = q.ms;
            return q.ms.index;
        }

        int end(Proc p) {
            Set<Proc> fall = spill(p);
            if (fall.isEmpty()) {
                return NONE;
            }
            int bits = 0;
            for (Proc q : fall) {
                bits |= 1 << q.index;
                procs.remove(q.index);
                if (q.ns.init == q) {
                    q.ns.init = null;
                }
            }
            for (Proc q : procs.values()) {
                if (fall.contains(q.parent)) {
                    q.parent = q.parent.ns.init;
                }
            }
            return bits;
        }
    }

    record Done(String act, int... o) {
    }

    record Noted(int space, int number, boolean there) {
    }

    private record Kept(List<Done> told, int kept, List<Noted> noted, int[] status) {
    }

    private List<Done> told = new ArrayList<>();
    private World world = new World();
    private int kept;
    private List<Noted> noted = new ArrayList<>();
    private int[] status = new int[3];
    private Kept image;
    private String tape = "";
    private int faultPlace = NONE;

    private World replayed(List<Done> acts) {
        World fresh = new World();
        for (Done done : acts) {
            fresh.act(done.act, done.o);
        }
        return fresh;
    }

    private Proc proc(int p) {
        if (!world.procs.containsKey(p)) {
            throw new NoSuchElementException();
        }
        return world.procs.get(p);
    }

    private static Space at(List<Space> all, int space) {
        if (space < 0 || space >= all.size()) {
            throw new NoSuchElementException();
        }
        return all.get(space);
    }

    private static int bit(boolean b) {
        return b ? 1 : 0;
    }

    int feed(int... words) {
        if (tape.length() > 880) {
            return NONE;
        }
        for (int word : words) {
            for (int shift = 24; shift >= 0; shift -= 8) {
                tape += (char) (word >>> shift & 255);
            }
        }
        return tape.length();
    }

    private int at;
    private String text;
    private String token;

    private void next() {
        Matcher m = Pattern.compile("[ \n]*([a-z]+|[0-9]+|;|[^ \n]|$)", Pattern.DOTALL).matcher(text);
        m.region(at, text.length());
        m.lookingAt();
        token = m.group(1);
        faultPlace = m.start(1);
        at = m.end();
    }

    private int readNumber(int most, int[] into, int i) {
        next();
        if (!token.matches("[0-9]+")) {
            return 1;
        }
        if (token.length() > 2 || Integer.parseInt(token) > most) {
            return 2;
        }
        into[i] = Integer.parseInt(token);
        return 0;
    }

    private static int[] limits(String act) {
        switch (act) {
            case "map": return new int[] {15, 7, 99, 99, 99};
            case "become": return new int[] {15, 99};
            case "mount": return new int[] {15, 7, 99};
            case "enter": case "kill": return new int[] {15, 15};
            default: return new int[] {15};
        }
    }

    private int parse(List<Done> acts) {
        at = 0;
        for (int clause = 1; ; clause++) {
            next();
            if (token.isEmpty()) {
                return 0;
            }
            if (!ACTS.contains(token)) {
                return 1;
            }
            if (clause == 61) {
                return 2;
            }
            String act = token;
            int[] limits = limits(act);
            int[] o = new int[5];
            for (int i = 0; i < limits.length; i++) {
                int fault = readNumber(limits[i], o, i);
                if (fault != 0) {
                    return fault;
                }
            }
            if (act.equals("enter")) {
                next();
                o[2] = List.of("numbers", "user", "mounts").indexOf(token);
                if (o[2] < 0) {
                    return 1;
                }
            }
            next();
            if (!token.equals(";")) {
                return 1;
            }
            acts.add(new Done(act, o));
        }
    }

    int spaces(int n) {
        if (n < 0 || n > tape.length()) {
            throw new IllegalArgumentException();
        }
        text = tape.substring(0, n);
        tape = "";
        List<Done> acts = new ArrayList<>();
        int fault = parse(acts);
        if (fault != 0) {
            status[0]++;
            return fault;
        }
        faultPlace = NONE;
        told = acts;
        world = replayed(told);
        kept = 0;
        noted.clear();
        image = null;
        return 0;
    }

    int fault() {
        return faultPlace;
    }

    int count(int what) {
        switch (what) {
            case 0: return world.procs.keySet().stream().mapToInt(p -> 1 << p).sum();
            case 1: return world.procs.size();
            case 2: return world.ns.size();
            case 3: return world.us.size();
            case 4: return world.ms.size();
            case 5: return world.ns.stream().filter(Space::dead).mapToInt(s -> 1 << s.index).sum();
            case 6: return world.procs.values().stream().filter(p -> p.power).mapToInt(p -> 1 << p.index).sum();
            case 7: return kept;
            case 8: return noted.size();
            case 9: return tape.length();
            case 10: case 11: case 12: return status[what - 10];
            default: throw new NoSuchElementException();
        }
    }

    int process(int i, int what) {
        Proc p = proc(i);
        switch (what) {
            case 0: return p.parent.index;
            case 1: return p.ns.index;
            case 2: return p.us.index;
            case 3: return p.ms.index;
            case 4: return p.child.index;
            case 5: return p.numbers.get(p.ns);
            case 6: return p.id;
            case 7: return world.inside(p.us, p.id);
            case 8: return bit(p.power);
            case 9: return bit(p.ns.init == p);
            default: throw new NoSuchElementException();
        }
    }

    int space(int kind, int space, int what) {
        if (kind < 0 || kind > 2 || what < 0 || what > 6) {
            throw new NoSuchElementException();
        }
        Space s = at(List.of(world.ns, world.us, world.ms).get(kind), space);
        switch (what) {
            case 0: return s.parent == null ? NONE : s.parent.index;
            case 1: return s.depth();
            case 2: return s.keeper;
            case 3: return (int) world.procs.values().stream()
                .filter(p -> (kind == 0 ? p.ns : kind == 1 ? p.us : p.ms) == s).count();
            case 4: return kind == 0 ? s.init == null ? NONE : s.init.index
                : kind == 1 ? s.ranges.size() : (int) Arrays.stream(s.things).filter(t -> t != 0).count();
            case 5: return kind == 2 ? bit(s.shared) : 0;
            default: return kind == 2 ? world.spreads(s).stream().mapToInt(m -> 1 << m.index).sum() : 0;
        }
    }

    int number(int p, int space) {
        return proc(p).numbers.getOrDefault(at(world.ns, space), NONE);
    }

    int listed(int space, int i) {
        Space s = at(world.ns, space);
        TreeMap<Integer, Integer> byNumber = new TreeMap<>();
        for (Proc p : world.procs.values()) {
            if (p.numbers.containsKey(s)) {
                byNumber.put(p.numbers.get(s), p.index);
            }
        }
        List<Integer> all = new ArrayList<>(byNumber.values());
        if (i == NONE) {
            return all.size();
        }
        if (i < 0 || i >= all.size()) {
            throw new NoSuchElementException();
        }
        return all.get(i);
    }

    int inside(int space, int id) {
        Space u = at(world.us, space);
        if (id < 0 || id > 99) {
            throw new IllegalArgumentException();
        }
        return world.inside(u, id);
    }

    int outside(int space, int id) {
        Space u = at(world.us, space);
        if (id < 0 || id > 99) {
            throw new IllegalArgumentException();
        }
        return world.outside(u, id);
    }

    int range(int space, int i, int what) {
        Space u = at(world.us, space);
        if (i < 0 || i >= u.ranges.size() || what < 0 || what > 2) {
            throw new NoSuchElementException();
        }
        return u.ranges.get(i)[what];
    }

    int mounted(int space, int place) {
        Space m = at(world.ms, space);
        if (place < 0 || place > 7) {
            throw new NoSuchElementException();
        }
        return m.things[place];
    }

    int may(int i, int j, int what) {
        Proc p = proc(i);
        Proc q = proc(j);
        switch (what) {
            case 0: return bit(world.sees(p, q));
            case 1: return bit(world.over(p, q.us));
            case 2: return bit(world.canKill(p, q));
            case 3: return bit(world.canEnter(p, q, 1));
            case 4: return bit(world.canEnter(p, q, 0));
            case 5: return bit(world.canEnter(p, q, 2));
            default: throw new NoSuchElementException();
        }
    }

    int over(int p, int space) {
        return bit(world.over(proc(p), at(world.us, space)));
    }

    int act(String act, int... o) {
        int answer = world.act(act, o);
        if (answer == NONE) {
            status[1]++;
        } else {
            told.add(new Done(act, o));
            kept = Math.min(40, kept + 1);
        }
        return answer;
    }

    int create(int p, int kind) {
        if (kind < 0 || kind > 2) {
            status[1]++;
            return NONE;
        }
        return act(List.of("numbers", "user", "mounts").get(kind), p);
    }

    int undo() {
        if (kept == 0) {
            return NONE;
        }
        told.remove(told.size() - 1);
        world = replayed(told);
        return --kept;
    }

    int set(int p, int what) {
        proc(p);
        int bits = 0;
        switch (what) {
            case 0:
                int ended = replayed(told).act("end", p);
                return ended == NONE ? 0 : ended;
            case 1:
                for (int q = 0; q < 16; q++) {
                    if (replayed(told).act("kill", p, q) != NONE) {
                        bits |= 1 << q;
                    }
                }
                return bits;
            case 2:
                for (int m = 0; m < world.ms.size(); m++) {
                    if (steps(p, m) != NONE) {
                        bits |= 1 << m;
                    }
                }
                return bits;
            default: throw new NoSuchElementException();
        }
    }

    int shared(int space, int other) {
        Space u = at(world.us, space);
        Space v = at(world.us, other);
        Set<Integer> both = new HashSet<>();
        for (int id = 0; id < 100; id++) {
            int root = world.outside(u, id);
            if (root != NOBODY && world.inside(v, root) != NOBODY) {
                both.add(root);
            }
        }
        return both.size();
    }

    int steps(int i, int space) {
        Proc p = proc(i);
        Space target = at(world.ms, space);
        Space us = p.us;
        Space ms = p.ms;
        boolean power = p.power;
        Map<String, Integer> far = new HashMap<>();
        List<Object[]> queue = new ArrayList<>();
        queue.add(new Object[] {us, ms, power});
        far.put(us.index + " " + ms.index + " " + power, 0);
        int found = NONE;
        for (int k = 0; k < queue.size() && found == NONE; k++) {
            Object[] state = queue.get(k);
            int distance = far.get(((Space) state[0]).index + " " + ((Space) state[1]).index + " " + state[2]);
            if (state[1] == target) {
                found = distance;
            }
            for (Proc q : world.procs.values()) {
                for (int kind = 1; kind <= 2; kind++) {
                    p.us = (Space) state[0];
                    p.ms = (Space) state[1];
                    p.power = (Boolean) state[2];
                    if (world.enter(p, q, kind) != NONE
                        && far.putIfAbsent(p.us.index + " " + p.ms.index + " " + p.power, distance + 1) == null) {
                        queue.add(new Object[] {p.us, p.ms, p.power});
                    }
                }
            }
        }
        p.us = us;
        p.ms = ms;
        p.power = power;
        return found;
    }

    int note(int space, int number, boolean there) {
        if (noted.size() == 8 || space < 0 || space >= world.ns.size() || number < 1 || number > 20) {
            status[2]++;
            return NONE;
        }
        noted.add(new Noted(space, number, there));
        return noted.size();
    }

    private static boolean somebodys(World w, int space, int number) {
        return space < w.ns.size()
            && w.procs.values().stream().anyMatch(p -> p.numbers.getOrDefault(w.ns.get(space), 0) == number);
    }

    private List<World> fitting(List<Integer> who) {
        List<World> ends = new ArrayList<>();
        for (int p : world.procs.keySet()) {
            World w = replayed(told);
            if (p != 0) {
                w.act("end", p);
                if (noted.stream().allMatch(n -> somebodys(w, n.space, n.number) == n.there)) {
                    ends.add(w);
                    who.add(p);
                }
            }
        }
        return ends;
    }

    int fits() {
        List<Integer> who = new ArrayList<>();
        fitting(who);
        return who.stream().mapToInt(p -> 1 << p).sum();
    }

    int look(int what) {
        if (what != 0 && what != 1) {
            throw new NoSuchElementException();
        }
        List<World> ends = fitting(new ArrayList<>());
        int which = NONE;
        int most = 0;
        for (int s = world.ns.size() - 1; s >= 0; s--) {
            for (int n = 20; n >= 1; n--) {
                int is = 0;
                for (World w : ends) {
                    is += bit(somebodys(w, s, n));
                }
                int lesser = Math.min(is, ends.size() - is);
                if (lesser > 0 && lesser >= most) {
                    most = lesser;
                    which = s * 100 + n;
                }
            }
        }
        return what == 0 ? which : most;
    }

    void forget() {
        noted.clear();
    }

    private long seed;

    private int draw(int n) {
        seed = seed * 1103515245L + 12345L & 0xffffffffL;
        return (int) (seed >> 16 & 0x7fff) % n;
    }

    int years(int from, int n, int what) {
        if (what < 0 || what > 2) {
            throw new NoSuchElementException();
        }
        if (n < 0 || n > 60) {
            throw new IllegalArgumentException();
        }
        World w = replayed(told);
        seed = from & 0xffffffffL;
        int done = 0;
        for (int year = 0; year < n; year++) {
            String act = ACTS.get(draw(11));
            int[] o = {draw(16), 0, 0, 0, 0};
            switch (act) {
                case "enter":
                    o[1] = draw(16);
                    o[2] = new int[] {1, 0, 2}[draw(3)];
                    break;
                case "map":
                    o[1] = draw(8);
                    o[2] = draw(100);
                    o[3] = draw(100);
                    o[4] = draw(20) + 1;
                    break;
                case "become":
                    o[1] = draw(100);
                    break;
                case "mount":
                    o[1] = draw(8);
                    o[2] = draw(100);
                    break;
                case "kill":
                    o[1] = draw(16);
                    break;
                default:
            }
            done += bit(w.act(act, o) != NONE);
        }
        return what == 0 ? w.procs.size() : what == 1 ? done
            : w.procs.values().stream().mapToInt(p -> p.ns.depth()).max().orElse(0);
    }

    void image() {
        image = new Kept(new ArrayList<>(told), kept, new ArrayList<>(noted), status.clone());
    }

    boolean restore() {
        if (image == null) {
            return false;
        }
        told = new ArrayList<>(image.told);
        kept = image.kept;
        noted = new ArrayList<>(image.noted);
        status = image.status.clone();
        world = replayed(told);
        return true;
    }
}
