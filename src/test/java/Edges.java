import java.lang.reflect.InvocationTargetException;
import java.lang.reflect.Method;
import java.util.Arrays;
import java.util.Comparator;
import java.util.TreeSet;
import java.util.function.ToIntFunction;

/**
 * Runs boundary cases: each is a static method whose name says the promise's number, what sort of edge it is, and
 * which case (promise18_tooLarge_insideBeyond99). Each case makes objects of its own, of at most 512 calls.
 */
final class Edges {
    static final int NONE = -1;
    static final int NOBODY = 65534;

    private Edges() {
    }

    /** All cases of a class, by name; each promise from the first to the last must have one. */
    static void run(Class<?> cases, int first, int last) {
        Method[] methods = cases.getDeclaredMethods();
        Arrays.sort(methods, Comparator.comparing(Method::getName));
        TreeSet<Integer> promises = new TreeSet<>();
        for (Method method : methods) {
            String name = method.getName();
            if (name.startsWith("promise")) {
                boolean isTold = name.matches("promise\\d\\d_[a-zA-Z0-9]+_[a-zA-Z0-9]+");
                Check.yes(name + " says promise, edge and case", isTold);
                promises.add(isTold ? Integer.parseInt(name.substring(7, 9)) : 0);
                make(method);
            }
        }
        Check.inCase("");
        for (int promise = first; promise <= last; promise++) {
            Check.yes("promise " + promise + " has a case", promises.contains(promise));
        }
        Check.finish();
    }

    private static void make(Method method) {
        Check.inCase(method.getName() + ": ");
        int before = Check.asked();
        try {
            method.setAccessible(true);
            method.invoke(null);
        } catch (InvocationTargetException e) {
            Check.yes("throws " + e.getCause(), false);
        } catch (IllegalAccessException e) {
            Check.yes("can't be run", false);
        }
        Check.yes("asks something", Check.asked() > before);
    }

    /** In a world told by a text, an act that can't be: NONE, STATUS 1 counts it, and all else stays. */
    static void refuses(String text, ToIntFunction<SpaceWarden> act) {
        SpaceWarden x = Check.told(text);
        String before = state(x);
        Check.due("a refused act", act.applyAsInt(x), NONE);
        Check.due("STATUS 1", x.count(11), 1);
        Check.due("STATUS 0", x.count(10), 0);
        Check.due("STATUS 2", x.count(12), 0);
        same("nothing else changes", before, state(x));
    }

    /** In a world told by a text, an act that can be: its answer, one more is kept, and none was refused. */
    static SpaceWarden does(String text, ToIntFunction<SpaceWarden> act, int want) {
        SpaceWarden x = Check.told(text);
        Check.due("the act's answer", act.applyAsInt(x), want);
        Check.due("kept", x.count(7), 1);
        Check.due("STATUS 1", x.count(11), 0);
        return x;
    }

    static void same(String what, String before, String after) {
        Check.yes(what + ":\n  " + before + "\n  " + after, before.equals(after));
    }

    /** What acts change, what is kept and noted, and the tape; not STATUS. */
    static String state(SpaceWarden x) {
        StringBuilder all = new StringBuilder("counts");
        for (int what = 0; what <= 9; what++) {
            all.append(' ').append(x.count(what));
        }
        int there = x.count(0);
        for (int p = 0; p < 16; p++) {
            if ((there >> p & 1) == 1) {
                all.append("; process ").append(p);
                for (int what : new int[] {0, 1, 2, 3, 4, 5, 6, 8}) {
                    all.append(' ').append(x.process(p, what));
                }
            }
        }
        for (int kind = 0; kind < 3; kind++) {
            int many = x.count(2 + kind);
            for (int space = 0; space < many; space++) {
                all.append("; space ").append(kind).append(' ').append(space);
                for (int what : new int[] {0, 2, 4, 5}) {
                    all.append(' ').append(x.space(kind, space, what));
                }
                details(x, kind, space, all);
            }
        }
        return all.toString();
    }

    private static void details(SpaceWarden x, int kind, int space, StringBuilder all) {
        int ranges = kind == 1 ? x.space(1, space, 4) : 0;
        for (int i = 0; i < ranges; i++) {
            all.append(" range");
            for (int what = 0; what < 3; what++) {
                all.append(' ').append(x.range(space, i, what));
            }
        }
        for (int place = 0; kind == 2 && place < 8; place++) {
            all.append(" at ").append(x.mounted(space, place));
        }
    }
}
