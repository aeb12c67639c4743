import java.util.NoSuchElementException;

/** Processes, the spaces that their names live in, and who has power over which; see README.md. */
public final class SpaceWarden {
    public static final int NONE = -1;
    public static final int NOBODY = 65534;

    private static final int PROCESSES = 16;
    private static final int SPACES = 8;
    private static final int DEEPEST = 4;
    private static final int GREATEST_NUMBER = 20;
    private static final int IDS = 100;
    private static final int PLACES = 8;
    private static final int RANGES = 3;
    private static final int KEPT_ACTS = 40;
    private static final int MOST_NOTED = 8;
    private static final int TAPE_BYTES = 900;
    private static final int MOST_CLAUSES = 60;
    private static final int MOST_YEARS = 60;
    private static final int MOST_OPERANDS = 5;

    // The kinds of spaces, as the calls number them.
    private static final int OF_NUMBERS = 0;
    private static final int OF_USERS = 1;
    private static final int OF_MOUNTS = 2;

    // The sorts of operands in an act's shape; every other letter is a number up to 99.
    private static final char A_PROCESS = 'p';
    private static final char BELOW_EIGHT = 's';
    private static final char HOW_MANY = 'm';
    private static final char A_KIND = 'k';

    // What STATUS counts.
    private static final int TEXTS = 0;
    private static final int ACTS = 1;
    private static final int NOTES = 2;

    private final State now = new State();
    private final World start = new World();
    private final World spare = new World();
    private final Roads roads = new Roads();
    private final Reader reader = new Reader();
    private final int[] drawn = new int[MOST_OPERANDS];
    private int faultPlace = NONE;
    private int seedNow = 0;
    // Made by the first image() and used again, so that an object without images stays small.
    private State imageRow = null;
    private boolean hasImage = false;

    public SpaceWarden() {
    }

    public int feed(int a, int b, int c, int d, int e) {
        if (reader.taped + 20 > TAPE_BYTES) {
            return NONE;
        }
        reader.append(a);
        reader.append(b);
        reader.append(c);
        reader.append(d);
        reader.append(e);
        return reader.taped;
    }

    public int spaces(int n) throws IllegalArgumentException {
        if (n < 0 || n > reader.taped) {
            throw new IllegalArgumentException();
        }
        // The text is told to a spare world, as a fault may stand behind acts that could be.
        spare.copy(start);
        int fault = reader.read(n, spare);
        reader.taped = 0;
        if (fault != 0) {
            faultPlace = reader.tokenStart;
            now.refused[TEXTS]++;
            return fault;
        }
        faultPlace = NONE;
        now.world.copy(spare);
        now.kept = 0;
        now.notes.count = 0;
        hasImage = false;
        return 0;
    }

    public int fault() {
        return faultPlace;
    }

    public int count(int what) throws NoSuchElementException {
        World world = now.world;
        switch (what) {
            case 0: return world.processes.there;
            case 1: return Integer.bitCount(world.processes.there);
            case 2: return world.numbers.tree.count;
            case 3: return world.users.tree.count;
            case 4: return world.mounts.tree.count;
            case 5: return world.numbers.dead();
            case 6: return world.processes.powerful;
            case 7: return now.kept;
            case 8: return now.notes.count;
            case 9: return reader.taped;
            case 10: return now.refused[TEXTS];
            case 11: return now.refused[ACTS];
            case 12: return now.refused[NOTES];
            default: throw new NoSuchElementException();
        }
    }

    public int process(int p, int what) throws NoSuchElementException {
        needProcess(p);
        World world = now.world;
        Processes processes = world.processes;
        switch (what) {
            case 0: return processes.parent[p];
            case 1: return processes.numberSpace[p];
            case 2: return processes.userSpace[p];
            case 3: return processes.mountSpace[p];
            case 4: return processes.childSpace[p];
            case 5: return processes.numberOf(p, processes.numberSpace[p]);
            case 6: return processes.id[p];
            case 7: return world.users.inward(processes.userSpace[p], processes.id[p]);
            case 8: return bit(processes.hasPower(p));
            case 9: return bit(world.isInit(p));
            default: throw new NoSuchElementException();
        }
    }

    public int space(int kind, int space, int what) throws NoSuchElementException {
        Tree tree = now.world.treeOf(kind);
        if (tree == null || !tree.has(space)) {
            throw new NoSuchElementException();
        }
        switch (what) {
            case 0: return tree.around(space);
            case 1: return tree.depth(space);
            case 2: return now.world.keeperOf(kind, space);
            case 3: return now.world.processes.howManyIn(kind, space);
            case 4: return now.world.contentOf(kind, space);
            case 5: return kind == OF_MOUNTS ? bit(now.world.mounts.isShared(space)) : 0;
            case 6: return kind == OF_MOUNTS ? now.world.mounts.spread(space) : 0;
            default: throw new NoSuchElementException();
        }
    }

    public int number(int p, int space) throws NoSuchElementException {
        needProcess(p);
        needSpace(OF_NUMBERS, space);
        int number = now.world.processes.numberOf(p, space);
        return number == 0 ? NONE : number;
    }

    public int listed(int space, int i) throws NoSuchElementException {
        needSpace(OF_NUMBERS, space);
        int seen = 0;
        for (int number = 1; number <= GREATEST_NUMBER; number++) {
            int holder = now.world.processes.holderOf(space, number);
            if (holder != NONE) {
                if (seen == i) {
                    return holder;
                }
                seen++;
            }
        }
        if (i != NONE) {
            throw new NoSuchElementException();
        }
        return seen;
    }

    public int inside(int space, int id) throws NoSuchElementException, IllegalArgumentException {
        needSpace(OF_USERS, space);
        needId(id);
        return now.world.users.inward(space, id);
    }

    public int outside(int space, int id) throws NoSuchElementException, IllegalArgumentException {
        needSpace(OF_USERS, space);
        needId(id);
        return now.world.users.outward(space, id);
    }

    public int range(int space, int i, int what) throws NoSuchElementException {
        needSpace(OF_USERS, space);
        UserSpaces users = now.world.users;
        if (i < 0 || i >= users.ranges[space]) {
            throw new NoSuchElementException();
        }
        int row = space * RANGES + i;
        switch (what) {
            case 0: return users.inside[row];
            case 1: return users.outside[row];
            case 2: return users.many[row];
            default: throw new NoSuchElementException();
        }
    }

    public int mounted(int space, int place) throws NoSuchElementException {
        needSpace(OF_MOUNTS, space);
        if (place < 0 || place >= PLACES) {
            throw new NoSuchElementException();
        }
        return now.world.mounts.things[space * PLACES + place];
    }

    public int may(int p, int q, int what) throws NoSuchElementException {
        needProcess(p);
        needProcess(q);
        World world = now.world;
        switch (what) {
            case 0: return bit(world.sees(p, q));
            case 1: return bit(world.rules(p, world.processes.userSpace[q]));
            case 2: return bit(world.canKill(p, q));
            case 3: return bit(world.canEnter(p, q, OF_USERS));
            case 4: return bit(world.canEnter(p, q, OF_NUMBERS));
            case 5: return bit(world.canEnter(p, q, OF_MOUNTS));
            default: throw new NoSuchElementException();
        }
    }

    public int over(int p, int space) throws NoSuchElementException {
        needProcess(p);
        needSpace(OF_USERS, space);
        return bit(now.world.rules(p, space));
    }

    public int fork(int p) {
        return act(Act.FORK, p, 0, 0, 0, 0);
    }

    public int create(int p, int kind) {
        switch (kind) {
            case OF_NUMBERS: return act(Act.NUMBERS, p, 0, 0, 0, 0);
            case OF_USERS: return act(Act.USER, p, 0, 0, 0, 0);
            case OF_MOUNTS: return act(Act.MOUNTS, p, 0, 0, 0, 0);
            default:
                now.refused[ACTS]++;
                return NONE;
        }
    }

    public int map(int p, int space, int inside, int outside, int many) {
        return act(Act.MAP, p, space, inside, outside, many);
    }

    public int become(int p, int id) {
        return act(Act.BECOME, p, id, 0, 0, 0);
    }

    public int mount(int p, int place, int thing) {
        return act(Act.MOUNT, p, place, thing, 0, 0);
    }

    public int share(int p) {
        return act(Act.SHARE, p, 0, 0, 0, 0);
    }

    public int enter(int p, int q, int kind) {
        return act(Act.ENTER, p, q, kind, 0, 0);
    }

    public int end(int p) {
        return act(Act.END, p, 0, 0, 0, 0);
    }

    public int kill(int p, int q) {
        return act(Act.KILL, p, q, 0, 0, 0);
    }

    private int act(Act act, int p, int a, int b, int c, int d) {
        now.readyToKeep();
        int answer = now.world.attempt(act, p, a, b, c, d);
        if (answer == NONE) {
            now.refused[ACTS]++;
        } else {
            now.keep();
        }
        return answer;
    }

    public int undo() {
        return now.undoLast();
    }

    public int set(int p, int what) throws NoSuchElementException {
        needProcess(p);
        switch (what) {
            case 0: return now.world.fallOf(p);
            case 1: return now.world.reachOf(p);
            case 2: return roamsOf(p);
            default: throw new NoSuchElementException();
        }
    }

    private int roamsOf(int p) {
        roads.walk(now.world, p);
        int bits = 0;
        for (int space = 0; space < SPACES; space++) {
            if (roads.stepsTo(space) != NONE) {
                bits |= 1 << space;
            }
        }
        return bits;
    }

    public int shared(int space, int other) throws NoSuchElementException {
        needSpace(OF_USERS, space);
        needSpace(OF_USERS, other);
        UserSpaces users = now.world.users;
        int both = 0;
        for (int id = 0; id < IDS; id++) {
            if (users.inward(space, id) != NOBODY && users.inward(other, id) != NOBODY) {
                both++;
            }
        }
        return both;
    }

    public int steps(int p, int space) throws NoSuchElementException {
        needProcess(p);
        needSpace(OF_MOUNTS, space);
        roads.walk(now.world, p);
        return roads.stepsTo(space);
    }

    public int note(int space, int number, boolean isThere) {
        boolean canBe = now.world.numbers.tree.has(space) && number >= 1 && number <= GREATEST_NUMBER;
        if (!canBe || now.notes.count >= MOST_NOTED) {
            now.refused[NOTES]++;
            return NONE;
        }
        now.notes.add(space, number, isThere);
        return now.notes.count;
    }

    public int fits() {
        return now.notes.fitting(now.world);
    }

    public int look(int what) throws NoSuchElementException {
        if (what != 0 && what != 1) {
            throw new NoSuchElementException();
        }
        int fitting = now.notes.fitting(now.world);
        int best = NONE;
        int most = 0;
        for (int space = 0; space < now.world.numbers.tree.count; space++) {
            for (int number = 1; number <= GREATEST_NUMBER; number++) {
                int lesser = now.world.lesserSide(fitting, space, number);
                if (lesser > most) {
                    most = lesser;
                    best = 100 * space + number;
                }
            }
        }
        return what == 0 ? best : most;
    }

    public void forget() {
        now.notes.count = 0;
    }

    public int years(int seed, int n, int what) throws NoSuchElementException, IllegalArgumentException {
        if (what < 0 || what > 2) {
            throw new NoSuchElementException();
        }
        if (n < 0 || n > MOST_YEARS) {
            throw new IllegalArgumentException();
        }
        spare.copy(now.world);
        seedNow = seed;
        int done = 0;
        for (int year = 0; year < n; year++) {
            if (live()) {
                done++;
            }
        }
        switch (what) {
            case 0: return Integer.bitCount(spare.processes.there);
            case 1: return done;
            default: return spare.deepestNumberSpace();
        }
    }

    /** One year in the spare world: whether its act could be. */
    private boolean live() {
        Act act = Act.ALL[draw(Act.ALL.length)];
        for (int i = 0; i < act.shape.length() && i < MOST_OPERANDS; i++) {
            drawn[i] = drawOperand(act.shape.charAt(i));
        }
        return spare.attempt(act, drawn[0], drawn[1], drawn[2], drawn[3], drawn[4]) != NONE;
    }

    private int drawOperand(char sort) {
        if (sort == A_PROCESS) {
            return draw(PROCESSES);
        }
        if (sort == BELOW_EIGHT) {
            return draw(8);
        }
        if (sort == HOW_MANY) {
            return 1 + draw(20);
        }
        return sort == A_KIND ? drawKind() : draw(IDS);
    }

    /** The years tell users ahead of numbers, the calls' kinds the other way. */
    private int drawKind() {
        int kind = draw(3);
        return kind == 0 ? OF_USERS : kind == 1 ? OF_NUMBERS : OF_MOUNTS;
    }

    private int draw(int n) {
        seedNow = seedNow * 1103515245 + 12345;
        return n < 1 ? 0 : ((seedNow >>> 16) & 32767) % n;
    }

    public void image() {
        if (imageRow == null) {
            imageRow = new State();
        }
        imageRow.copy(now);
        hasImage = true;
    }

    public boolean restore() {
        if (!hasImage || imageRow == null) {
            return false;
        }
        now.copy(imageRow);
        return true;
    }

    private void needProcess(int p) {
        if (!now.world.processes.has(p)) {
            throw new NoSuchElementException();
        }
    }

    private void needSpace(int kind, int space) {
        Tree tree = now.world.treeOf(kind);
        if (tree == null || !tree.has(space)) {
            throw new NoSuchElementException();
        }
    }

    private static void needId(int id) {
        if (!isId(id)) {
            throw new IllegalArgumentException();
        }
    }

    private static boolean isId(int id) {
        return id >= 0 && id < IDS;
    }

    private static int bit(boolean yes) {
        return yes ? 1 : 0;
    }

    private static boolean holds(int bits, int i) {
        return ((bits >>> i) & 1) != 0;
    }

    private static void copyRow(int[] from, int[] to) {
        System.arraycopy(from, 0, to, 0, Math.min(from.length, to.length));
    }

    /** The acts in the order in which the years draw them, with the word and the operands of their clause. */
    private enum Act {
        FORK("fork", "p"),
        USER("user", "p"),
        NUMBERS("numbers", "p"),
        MOUNTS("mounts", "p"),
        MAP("map", "psnnm"),
        BECOME("become", "pn"),
        MOUNT("mount", "psn"),
        ENTER("enter", "ppk"),
        END("end", "p"),
        KILL("kill", "pp"),
        SHARE("share", "p");

        private static final Act[] ALL = values();

        private final String word;
        private final String shape;

        Act(String word, String shape) {
            this.word = word;
            this.shape = shape;
        }
    }

    /** Which spaces of one kind there are, and which is around which; one within another has the greater number. */
    private static final class Tree {
        private final int[] parent = new int[SPACES];
        private int count = 1;

        private Tree() {
            parent[0] = NONE;
        }

        private void copy(Tree other) {
            copyRow(other.parent, parent);
            count = other.count;
        }

        private boolean has(int space) {
            return space >= 0 && space < count && space < SPACES;
        }

        private int around(int space) {
            return space >= 0 && space < count && space < SPACES ? parent[space] : NONE;
        }

        private int depth(int space) {
            int depth = 0;
            int outer = around(space);
            for (int i = 0; i < SPACES && outer != NONE; i++) {
                depth++;
                outer = around(outer);
            }
            return depth;
        }

        private int ancestor(int space, int up) {
            int outer = space;
            for (int i = 0; i < up && i < SPACES; i++) {
                outer = around(outer);
            }
            return outer;
        }

        /** Whether a space is another one, or within it. */
        private boolean isUnder(int space, int outer) {
            int at = space;
            for (int i = 0; i < SPACES && at != NONE; i++) {
                if (at == outer) {
                    return true;
                }
                at = around(at);
            }
            return false;
        }

        private boolean canGrowAt(int space) {
            return has(space) && count < SPACES && depth(space) < DEEPEST;
        }

        private int growAt(int space) {
            if (!canGrowAt(space)) {
                return NONE;
            }
            parent[count] = space;
            count++;
            return count - 1;
        }
    }

    private static final class NumberSpaces {
        private static final int NO_INIT_YET = -1;
        private static final int INIT_HAS_ENDED = -2;

        private final Tree tree = new Tree();
        private final int[] keeper = new int[SPACES];
        private final int[] givenLast = new int[SPACES];
        private final int[] init = new int[SPACES];

        private NumberSpaces() {
            for (int space = 0; space < SPACES; space++) {
                givenLast[space] = 1;
                init[space] = NO_INIT_YET;
            }
            init[0] = 0;
        }

        private void copy(NumberSpaces other) {
            tree.copy(other.tree);
            copyRow(other.keeper, keeper);
            copyRow(other.givenLast, givenLast);
            copyRow(other.init, init);
        }

        private boolean isDead(int space) {
            return tree.has(space) && init[space] == INIT_HAS_ENDED;
        }

        private int dead() {
            int bits = 0;
            for (int space = 0; space < SPACES; space++) {
                if (isDead(space)) {
                    bits |= 1 << space;
                }
            }
            return bits;
        }

        private int livingInit(int space) {
            return tree.has(space) && init[space] >= 0 ? init[space] : NONE;
        }

        /** The number behind the one given last that none has; 0 if there is none. */
        private int nextNumber(int space, int taken) {
            int number = givenLast[space];
            for (int i = 1; i < GREATEST_NUMBER; i++) {
                number = number >= GREATEST_NUMBER ? 2 : number + 1;
                if (!holds(taken, number)) {
                    return number;
                }
            }
            return 0;
        }
    }

    private static final class UserSpaces {
        private final Tree tree = new Tree();
        private final int[] owner = new int[SPACES];
        private final int[] ranges = new int[SPACES];
        private final int[] inside = new int[SPACES * RANGES];
        private final int[] outside = new int[SPACES * RANGES];
        private final int[] many = new int[SPACES * RANGES];

        private void copy(UserSpaces other) {
            tree.copy(other.tree);
            copyRow(other.owner, owner);
            copyRow(other.ranges, ranges);
            copyRow(other.inside, inside);
            copyRow(other.outside, outside);
            copyRow(other.many, many);
        }

        private int inward(int space, int rootId) {
            int id = rootId;
            for (int up = tree.depth(space) - 1; up >= 0; up--) {
                id = through(tree.ancestor(space, up), id, outside, inside);
            }
            return id;
        }

        private int outward(int space, int innerId) {
            int id = innerId;
            int at = space;
            for (int i = 0; i < SPACES && tree.around(at) != NONE; i++) {
                id = through(at, id, inside, outside);
                at = tree.around(at);
            }
            return id;
        }

        /** An ID on one side of a space's ranges, as the other side tells it. NOBODY stays so: no range holds it. */
        private int through(int space, int id, int[] from, int[] to) {
            if (space < 0 || space >= SPACES) {
                return NOBODY;
            }
            for (int i = 0; i < ranges[space] && i < RANGES; i++) {
                int row = space * RANGES + i;
                if (id >= from[row] && id < from[row] + many[row]) {
                    return to[row] + id - from[row];
                }
            }
            return NOBODY;
        }

        /** Whether one of this ID, in this space of its own, has power over another space. */
        private boolean isRuled(int space, int own, boolean hasPower, int id) {
            int at = space;
            for (int i = 0; i < SPACES && at != NONE; i++) {
                int outer = tree.around(at);
                if (at == own) {
                    return hasPower;
                }
                if (outer == own && owner[at] == id) {
                    return true;
                }
                at = outer;
            }
            return false;
        }

        private boolean canTake(int space, int first, int outer, int length) {
            boolean isInBounds = isId(first) && isId(outer) && length >= 1 && length < IDS
                && first + length <= IDS && outer + length <= IDS;
            return isInBounds && tree.has(space) && space != 0 && ranges[space] < RANGES
                && isApart(space, first, outer, length) && isKnown(tree.around(space), outer, length);
        }

        private boolean isApart(int space, int first, int outer, int length) {
            for (int i = 0; i < ranges[space] && i < RANGES; i++) {
                int row = space * RANGES + i;
                boolean meetsInside = first < inside[row] + many[row] && inside[row] < first + length;
                boolean meetsOutside = outer < outside[row] + many[row] && outside[row] < outer + length;
                if (meetsInside || meetsOutside) {
                    return false;
                }
            }
            return true;
        }

        private boolean isKnown(int space, int first, int length) {
            for (int id = first; id < first + length && id < IDS; id++) {
                if (outward(space, id) == NOBODY) {
                    return false;
                }
            }
            return true;
        }

        /** Ranges are kept in the order of their inside. */
        private int add(int space, int first, int outer, int length) {
            if (!tree.has(space) || ranges[space] >= RANGES) {
                return NONE;
            }
            int base = space * RANGES;
            int row = base + ranges[space];
            for (int i = 0; i < RANGES && row > base && inside[row - 1] > first; i++) {
                inside[row] = inside[row - 1];
                outside[row] = outside[row - 1];
                many[row] = many[row - 1];
                row--;
            }
            inside[row] = first;
            outside[row] = outer;
            many[row] = length;
            ranges[space]++;
            return ranges[space];
        }
    }

    private static final class MountSpaces {
        private final Tree tree = new Tree();
        private final int[] keeper = new int[SPACES];
        private final int[] things = new int[SPACES * PLACES];
        private int sharing = 0;

        private void copy(MountSpaces other) {
            tree.copy(other.tree);
            copyRow(other.keeper, keeper);
            copyRow(other.things, things);
            sharing = other.sharing;
        }

        private boolean isShared(int space) {
            return holds(sharing, space);
        }

        private int spread(int space) {
            int bits = 1 << space;
            for (int inner = space + 1; inner < tree.count; inner++) {
                int outer = tree.around(inner);
                if (outer != NONE && holds(bits, outer) && isShared(outer)) {
                    bits |= 1 << inner;
                }
            }
            return bits;
        }

        private int placesInUse(int space) {
            int used = 0;
            for (int place = 0; place < PLACES; place++) {
                if (things[space * PLACES + place] != 0) {
                    used++;
                }
            }
            return used;
        }

        private void put(int space, int place, int thing) {
            int bits = spread(space);
            for (int at = 0; at < SPACES; at++) {
                if (holds(bits, at)) {
                    things[at * PLACES + place] = thing;
                }
            }
        }

        private void copyThings(int from, int to) {
            for (int place = 0; place < PLACES; place++) {
                things[to * PLACES + place] = things[from * PLACES + place];
            }
        }
    }

    private static final class Processes {
        private final int[] parent = new int[PROCESSES];
        private final int[] numberSpace = new int[PROCESSES];
        private final int[] userSpace = new int[PROCESSES];
        private final int[] mountSpace = new int[PROCESSES];
        private final int[] childSpace = new int[PROCESSES];
        private final int[] id = new int[PROCESSES];
        // By process and space; 0 where it has none.
        private final int[] number = new int[PROCESSES * SPACES];
        private int there = 1;
        private int powerful = 1;

        private Processes() {
            number[0] = 1;
        }

        private void copy(Processes other) {
            copyRow(other.parent, parent);
            copyRow(other.numberSpace, numberSpace);
            copyRow(other.userSpace, userSpace);
            copyRow(other.mountSpace, mountSpace);
            copyRow(other.childSpace, childSpace);
            copyRow(other.id, id);
            copyRow(other.number, number);
            there = other.there;
            powerful = other.powerful;
        }

        private boolean has(int p) {
            return p >= 0 && p < PROCESSES && holds(there, p);
        }

        private boolean hasPower(int p) {
            return holds(powerful, p);
        }

        private void setPower(int p, boolean yes) {
            powerful = yes ? powerful | (1 << p) : powerful & ~(1 << p);
        }

        private int leastFree() {
            for (int p = 0; p < PROCESSES; p++) {
                if (!holds(there, p)) {
                    return p;
                }
            }
            return NONE;
        }

        private int numberOf(int p, int space) {
            return number[p * SPACES + space];
        }

        private int holderOf(int space, int wanted) {
            for (int p = 0; p < PROCESSES; p++) {
                if (holds(there, p) && numberOf(p, space) == wanted) {
                    return p;
                }
            }
            return NONE;
        }

        private int numbersTaken(int space) {
            int bits = 0;
            for (int p = 0; p < PROCESSES; p++) {
                if (holds(there, p)) {
                    bits |= 1 << numberOf(p, space);
                }
            }
            return bits;
        }

        private int howManyIn(int kind, int space) {
            int[] row = kind == OF_NUMBERS ? numberSpace : kind == OF_USERS ? userSpace : mountSpace;
            int many = 0;
            for (int p = 0; p < PROCESSES; p++) {
                if (holds(there, p) && row[p] == space) {
                    many++;
                }
            }
            return many;
        }

        /** What a new process has from its parent; its numbers are given apart. */
        private void add(int p, int by) {
            parent[p] = by;
            numberSpace[p] = childSpace[by];
            userSpace[p] = userSpace[by];
            mountSpace[p] = mountSpace[by];
            childSpace[p] = childSpace[by];
            id[p] = id[by];
            there |= 1 << p;
            setPower(p, hasPower(by));
            for (int space = 0; space < SPACES; space++) {
                number[p * SPACES + space] = 0;
            }
        }
    }

    /** All that acts change. An act answers NONE, and changes nothing, if it can't be. */
    private static final class World {
        private final Processes processes = new Processes();
        private final NumberSpaces numbers = new NumberSpaces();
        private final UserSpaces users = new UserSpaces();
        private final MountSpaces mounts = new MountSpaces();

        private void copy(World other) {
            processes.copy(other.processes);
            numbers.copy(other.numbers);
            users.copy(other.users);
            mounts.copy(other.mounts);
        }

        private Tree treeOf(int kind) {
            switch (kind) {
                case OF_NUMBERS: return numbers.tree;
                case OF_USERS: return users.tree;
                case OF_MOUNTS: return mounts.tree;
                default: return null;
            }
        }

        private int keeperOf(int kind, int space) {
            switch (kind) {
                case OF_NUMBERS: return numbers.keeper[space];
                case OF_USERS: return users.owner[space];
                default: return mounts.keeper[space];
            }
        }

        private int contentOf(int kind, int space) {
            switch (kind) {
                case OF_NUMBERS: return numbers.livingInit(space);
                case OF_USERS: return users.ranges[space];
                default: return mounts.placesInUse(space);
            }
        }

        private int attempt(Act act, int p, int a, int b, int c, int d) {
            if (!processes.has(p)) {
                return NONE;
            }
            switch (act) {
                case FORK: return bear(p);
                case USER: return makeUserSpace(p);
                case NUMBERS: return makeNumberSpace(p);
                case MOUNTS: return makeMountSpace(p);
                case MAP: return addRange(p, a, b, c, d);
                case BECOME: return turnInto(p, a);
                case MOUNT: return putThing(p, a, b);
                case ENTER: return goInto(p, a, b);
                case END: return finish(p);
                case KILL: return canKill(p, a) ? finish(a) : NONE;
                case SHARE: return turnSharing(p);
                default: return NONE;
            }
        }

        private boolean isInit(int p) {
            return numbers.init[processes.numberSpace[p]] == p;
        }

        private boolean sees(int p, int q) {
            return processes.numberOf(q, processes.numberSpace[p]) != 0;
        }

        /** Whether P has power over a user space. */
        private boolean rules(int p, int space) {
            return users.isRuled(space, processes.userSpace[p], processes.hasPower(p), processes.id[p]);
        }

        private boolean canKill(int p, int q) {
            if (!processes.has(q) || q == 0 || !sees(p, q)) {
                return false;
            }
            if (numbers.init[processes.numberSpace[p]] == q) {
                return false;
            }
            return processes.id[p] == processes.id[q] || rules(p, processes.userSpace[q]);
        }

        private boolean canEnter(int p, int q, int kind) {
            if (!processes.has(q) || p == q || !sees(p, q)) {
                return false;
            }
            // That P sees Q tells already that Q's number space is P's or within it.
            int numberSpace = processes.numberSpace[q];
            int userSpace = processes.userSpace[q];
            int mountSpace = processes.mountSpace[q];
            switch (kind) {
                case OF_NUMBERS:
                    return processes.childSpace[p] != numberSpace && !numbers.isDead(numberSpace)
                        && rules(p, numbers.keeper[numberSpace]);
                case OF_USERS:
                    return processes.userSpace[p] != userSpace && rules(p, userSpace);
                case OF_MOUNTS:
                    return processes.mountSpace[p] != mountSpace && processes.hasPower(p)
                        && rules(p, mounts.keeper[mountSpace]);
                default:
                    return false;
            }
        }

        private int bear(int p) {
            int child = processes.leastFree();
            int target = processes.childSpace[p];
            if (child == NONE || numbers.isDead(target) || !hasNumbersFree(target)) {
                return NONE;
            }
            processes.add(child, p);
            int space = target;
            for (int i = 0; i < SPACES && space != NONE; i++) {
                giveNumber(child, space);
                space = numbers.tree.around(space);
            }
            return child;
        }

        private boolean hasNumbersFree(int target) {
            int space = target;
            for (int i = 0; i < SPACES && space != NONE; i++) {
                boolean givesOne = i == 0 && numbers.init[space] == NumberSpaces.NO_INIT_YET;
                if (!givesOne && numbers.nextNumber(space, processes.numbersTaken(space)) == 0) {
                    return false;
                }
                space = numbers.tree.around(space);
            }
            return true;
        }

        private void giveNumber(int child, int space) {
            int number = 1;
            if (space == processes.numberSpace[child] && numbers.init[space] == NumberSpaces.NO_INIT_YET) {
                numbers.init[space] = child;
            } else {
                number = numbers.nextNumber(space, processes.numbersTaken(space));
            }
            processes.number[child * SPACES + space] = number;
            numbers.givenLast[space] = number;
        }

        private int makeUserSpace(int p) {
            int space = users.tree.growAt(processes.userSpace[p]);
            if (space == NONE) {
                return NONE;
            }
            users.owner[space] = processes.id[p];
            users.ranges[space] = 0;
            processes.userSpace[p] = space;
            processes.setPower(p, true);
            return space;
        }

        private int makeNumberSpace(int p) {
            int around = processes.numberSpace[p];
            if (!processes.hasPower(p) || processes.childSpace[p] != around) {
                return NONE;
            }
            int space = numbers.tree.growAt(around);
            if (space == NONE) {
                return NONE;
            }
            numbers.keeper[space] = processes.userSpace[p];
            processes.childSpace[p] = space;
            return space;
        }

        private int makeMountSpace(int p) {
            int around = processes.mountSpace[p];
            if (!processes.hasPower(p)) {
                return NONE;
            }
            int space = mounts.tree.growAt(around);
            if (space == NONE) {
                return NONE;
            }
            mounts.keeper[space] = processes.userSpace[p];
            mounts.copyThings(around, space);
            processes.mountSpace[p] = space;
            return space;
        }

        private int addRange(int p, int space, int first, int outer, int length) {
            if (!users.canTake(space, first, outer, length)) {
                return NONE;
            }
            int around = users.tree.around(space);
            boolean isOwnId = length == 1 && processes.id[p] == users.owner[space]
                && users.inward(around, processes.id[p]) == outer;
            if (!isOwnId && !rules(p, around)) {
                return NONE;
            }
            return users.add(space, first, outer, length);
        }

        private int turnInto(int p, int id) {
            if (!processes.hasPower(p) || !isId(id)) {
                return NONE;
            }
            int rootId = users.outward(processes.userSpace[p], id);
            if (rootId == NOBODY) {
                return NONE;
            }
            processes.id[p] = rootId;
            processes.setPower(p, id == 0);
            return rootId;
        }

        private int putThing(int p, int place, int thing) {
            int space = processes.mountSpace[p];
            if (place < 0 || place >= PLACES || thing < 0 || thing > 99 || !rules(p, mounts.keeper[space])) {
                return NONE;
            }
            int old = mounts.things[space * PLACES + place];
            if (old == thing) {
                return NONE;
            }
            mounts.put(space, place, thing);
            return old;
        }

        private int turnSharing(int p) {
            int space = processes.mountSpace[p];
            if (!rules(p, mounts.keeper[space])) {
                return NONE;
            }
            mounts.sharing ^= 1 << space;
            return bit(mounts.isShared(space));
        }

        private int goInto(int p, int q, int kind) {
            if (!canEnter(p, q, kind)) {
                return NONE;
            }
            switch (kind) {
                case OF_NUMBERS:
                    processes.childSpace[p] = processes.numberSpace[q];
                    return processes.childSpace[p];
                case OF_USERS:
                    processes.userSpace[p] = processes.userSpace[q];
                    processes.setPower(p, true);
                    return processes.userSpace[p];
                default:
                    processes.mountSpace[p] = processes.mountSpace[q];
                    return processes.mountSpace[p];
            }
        }

        private int fallOf(int p) {
            if (p == 0) {
                return 0;
            }
            int bits = 1 << p;
            if (isInit(p)) {
                for (int q = 0; q < PROCESSES; q++) {
                    if (processes.has(q)
                        && numbers.tree.isUnder(processes.numberSpace[q], processes.numberSpace[p])) {
                        bits |= 1 << q;
                    }
                }
            }
            return bits;
        }

        private int reachOf(int p) {
            int bits = 0;
            for (int q = 0; q < PROCESSES; q++) {
                if (canKill(p, q)) {
                    bits |= 1 << q;
                }
            }
            return bits;
        }

        private int finish(int p) {
            int ended = fallOf(p);
            if (ended == 0) {
                return NONE;
            }
            for (int q = 0; q < PROCESSES; q++) {
                if (holds(ended, q) && isInit(q)) {
                    numbers.init[processes.numberSpace[q]] = NumberSpaces.INIT_HAS_ENDED;
                }
            }
            processes.there &= ~ended;
            processes.powerful &= ~ended;
            adoptOrphans(ended);
            return ended;
        }

        /** A process is always within its parent's space, so whoever is left has an init there that lives. */
        private void adoptOrphans(int ended) {
            for (int q = 0; q < PROCESSES; q++) {
                int parent = processes.parent[q];
                if (processes.has(q) && holds(ended, parent)) {
                    processes.parent[q] = Math.max(0, numbers.livingInit(processes.numberSpace[parent]));
                }
            }
        }

        /** By how many of these ends a number is somebody's, or by how many not: the lesser. */
        private int lesserSide(int ends, int space, int number) {
            int holder = processes.holderOf(space, number);
            int somebodys = 0;
            int nobodys = 0;
            for (int p = 1; p < PROCESSES; p++) {
                if (holds(ends, p)) {
                    if (holder != NONE && !holds(fallOf(p), holder)) {
                        somebodys++;
                    } else {
                        nobodys++;
                    }
                }
            }
            return Math.min(somebodys, nobodys);
        }

        private int deepestNumberSpace() {
            int deepest = 0;
            for (int p = 0; p < PROCESSES; p++) {
                if (processes.has(p)) {
                    deepest = Math.max(deepest, numbers.tree.depth(processes.numberSpace[p]));
                }
            }
            return deepest;
        }
    }

    /**
     * The fewest enterings of one process to each mount space. What mount space it is in bars none of its
     * later enterings, so a shortest road is some enterings of user spaces and one of a mount space.
     */
    private static final class Roads {
        private static final int STANDS = SPACES + 1;
        private static final int NOT_REACHED = -1;

        // A stand is the user space that was entered (with power then); the last one is where it starts.
        private static final int AT_START = SPACES;

        private final int[] distance = new int[STANDS];
        private final int[] queue = new int[STANDS];
        private final int[] steps = new int[SPACES];
        private int queued = 0;

        private int stepsTo(int mountSpace) {
            return mountSpace >= 0 && mountSpace < SPACES ? steps[mountSpace] : NONE;
        }

        private void walk(World world, int p) {
            for (int i = 0; i < STANDS; i++) {
                distance[i] = NOT_REACHED;
            }
            for (int i = 0; i < SPACES; i++) {
                steps[i] = NONE;
            }
            steps[world.processes.mountSpace[p]] = 0;
            distance[AT_START] = 0;
            queue[0] = AT_START;
            queued = 1;
            for (int i = 0; i < queued && i < STANDS; i++) {
                lookAround(world, p, queue[i]);
            }
        }

        private void lookAround(World world, int p, int stand) {
            Processes processes = world.processes;
            int own = stand == AT_START ? processes.userSpace[p] : stand;
            boolean hasPower = stand != AT_START || processes.hasPower(p);
            int id = processes.id[p];
            for (int q = 0; q < PROCESSES; q++) {
                if (q == p || !processes.has(q) || !world.sees(p, q)) {
                    continue;
                }
                int userSpace = processes.userSpace[q];
                if (userSpace != own && world.users.isRuled(userSpace, own, hasPower, id)) {
                    reach(userSpace, distance[stand] + 1);
                }
                int mountSpace = processes.mountSpace[q];
                if (hasPower && steps[mountSpace] == NONE
                    && world.users.isRuled(world.mounts.keeper[mountSpace], own, true, id)) {
                    steps[mountSpace] = distance[stand] + 1;
                }
            }
        }

        private void reach(int stand, int far) {
            if (distance[stand] == NOT_REACHED && queued < STANDS) {
                distance[stand] = far;
                queue[queued] = stand;
                queued++;
            }
        }
    }

    private static final class Notes {
        private final int[] space = new int[MOST_NOTED];
        private final int[] number = new int[MOST_NOTED];
        private final int[] isThere = new int[MOST_NOTED];
        private int count = 0;

        private void copy(Notes other) {
            copyRow(other.space, space);
            copyRow(other.number, number);
            copyRow(other.isThere, isThere);
            count = other.count;
        }

        private void add(int inSpace, int noted, boolean there) {
            if (count < MOST_NOTED) {
                space[count] = inSpace;
                number[count] = noted;
                isThere[count] = bit(there);
                count++;
            }
        }

        private int fitting(World world) {
            int bits = 0;
            for (int p = 1; p < PROCESSES; p++) {
                if (world.processes.has(p) && wouldBeSo(world, world.fallOf(p))) {
                    bits |= 1 << p;
                }
            }
            return bits;
        }

        private boolean wouldBeSo(World world, int ended) {
            for (int i = 0; i < count && i < MOST_NOTED; i++) {
                // A space may be gone by an undo: then its numbers are nobody's.
                int holder = world.numbers.tree.has(space[i])
                    ? world.processes.holderOf(space[i], number[i]) : NONE;
                boolean somebodys = holder != NONE && !holds(ended, holder);
                if (bit(somebodys) != isThere[i]) {
                    return false;
                }
            }
            return true;
        }
    }

    /** What an image keeps: the world, how it was ahead of each act that is kept, the notes, and STATUS. */
    private static final class State {
        // One row more than are kept: the next act's row is written before it is known whether the act can be.
        private static final int ROWS = KEPT_ACTS + 1;

        private final World world = new World();
        private final World[] before = new World[ROWS];
        private final Notes notes = new Notes();
        private final int[] refused = new int[3];
        private int next = 0;
        private int kept = 0;

        private void readyToKeep() {
            rowAt(next).copy(world);
        }

        private void keep() {
            next = next + 1 < ROWS ? next + 1 : 0;
            kept = Math.min(kept + 1, KEPT_ACTS);
        }

        private int undoLast() {
            if (kept == 0) {
                return NONE;
            }
            next = rowBefore(next);
            World last = before[next];
            if (last != null) {
                world.copy(last);
            }
            kept--;
            return kept;
        }

        private void copy(State other) {
            world.copy(other.world);
            notes.copy(other.notes);
            copyRow(other.refused, refused);
            next = other.next;
            kept = other.kept;
            int row = next;
            for (int i = 0; i < kept && i < ROWS; i++) {
                row = rowBefore(row);
                World old = other.before[row];
                if (old != null) {
                    rowAt(row).copy(old);
                }
            }
        }

        private static int rowBefore(int row) {
            return row > 0 ? row - 1 : ROWS - 1;
        }

        /** Rows are made when they are first needed, so that an object with few acts stays small. */
        private World rowAt(int row) {
            World found = before[row];
            if (found == null) {
                found = new World();
                before[row] = found;
            }
            return found;
        }
    }

    /**
     * The tape, and the reading of a text from it: its acts are told to a world, up to the first fault, which
     * is where the last token that was read starts.
     */
    private static final class Reader {
        private static final int CAN_NOT_STAND = 1;
        private static final int TOO_MUCH = 2;

        // What a token is.
        private static final int TEXT_END = 0;
        private static final int WORD = 1;
        private static final int NUMBER = 2;
        private static final int SEMICOLON = 3;
        private static final int NO_TOKEN = 4;

        private final int[] tape = new int[TAPE_BYTES];
        private final int[] operands = new int[MOST_OPERANDS];
        private int taped = 0;
        private int length = 0;
        private int token = TEXT_END;
        private int tokenStart = 0;
        private int tokenEnd = 0;

        private void append(int four) {
            for (int shift = 24; shift >= 0 && taped < TAPE_BYTES; shift -= 8) {
                tape[taped] = (four >>> shift) & 255;
                taped++;
            }
        }

        private int read(int n, World world) {
            length = Math.max(0, Math.min(n, TAPE_BYTES));
            tokenEnd = 0;
            for (int clause = 0; clause <= MOST_CLAUSES; clause++) {
                nextToken();
                if (token == TEXT_END) {
                    return 0;
                }
                Act act = actNamed();
                if (act == null) {
                    return CAN_NOT_STAND;
                }
                if (clause == MOST_CLAUSES) {
                    return TOO_MUCH;
                }
                int fault = readOperands(act);
                if (fault != 0) {
                    return fault;
                }
                world.attempt(act, operands[0], operands[1], operands[2], operands[3], operands[4]);
            }
            return 0;
        }

        /** The operands and the sign behind them: 0, or the fault. */
        private int readOperands(Act act) {
            for (int i = 0; i < act.shape.length() && i < MOST_OPERANDS; i++) {
                nextToken();
                int fault = act.shape.charAt(i) == A_KIND ? readKind(i) : readNumber(i, act.shape.charAt(i));
                if (fault != 0) {
                    return fault;
                }
            }
            nextToken();
            return token == SEMICOLON ? 0 : CAN_NOT_STAND;
        }

        private int readKind(int i) {
            Act act = actNamed();
            if (act != Act.USER && act != Act.NUMBERS && act != Act.MOUNTS) {
                return CAN_NOT_STAND;
            }
            operands[i] = act == Act.USER ? OF_USERS : act == Act.NUMBERS ? OF_NUMBERS : OF_MOUNTS;
            return 0;
        }

        private int readNumber(int i, char sort) {
            if (token != NUMBER) {
                return CAN_NOT_STAND;
            }
            if (tokenEnd - tokenStart > 2) {
                return TOO_MUCH;
            }
            int value = 0;
            for (int at = tokenStart; at < tokenEnd && at < length; at++) {
                value = value * 10 + tape[at] - '0';
            }
            operands[i] = value;
            return value > greatest(sort) ? TOO_MUCH : 0;
        }

        private static int greatest(char sort) {
            return sort == A_PROCESS ? 15 : sort == BELOW_EIGHT ? 7 : 99;
        }

        private void nextToken() {
            tokenStart = tokenEnd;
            while (tokenStart < length && (tape[tokenStart] == 32 || tape[tokenStart] == 10)) {
                tokenStart++;
            }
            tokenEnd = tokenStart;
            token = sortAt(tokenStart);
            if (token == SEMICOLON || token == NO_TOKEN) {
                tokenEnd++;
                return;
            }
            while (tokenEnd < length && sortAt(tokenEnd) == token) {
                tokenEnd++;
            }
        }

        private int sortAt(int at) {
            if (at >= length) {
                return TEXT_END;
            }
            int sign = tape[at];
            if (sign >= 'a' && sign <= 'z') {
                return WORD;
            }
            if (sign >= '0' && sign <= '9') {
                return NUMBER;
            }
            return sign == ';' ? SEMICOLON : NO_TOKEN;
        }

        /** The act whose word the token is; null if it is none's. */
        private Act actNamed() {
            for (int i = 0; i < Act.ALL.length; i++) {
                if (isWord(Act.ALL[i].word)) {
                    return Act.ALL[i];
                }
            }
            return null;
        }

        private boolean isWord(String word) {
            if (token != WORD || tokenEnd - tokenStart != word.length()) {
                return false;
            }
            for (int i = 0; i < word.length(); i++) {
                if (tape[tokenStart + i] != word.charAt(i)) {
                    return false;
                }
            }
            return true;
        }
    }
}
