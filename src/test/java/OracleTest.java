import java.util.ArrayList;
import java.util.List;
import java.util.NoSuchElementException;
import java.util.Random;
import java.util.function.IntSupplier;

/** Random runs of 512 calls, each call made of the program and of the oracle, whose answers must be alike. */
public final class OracleTest {
    private static final int RUNS = 400;
    private static final int CALLS = 512;
    private static final long THROWS_NO_SUCH = 1L << 40;
    private static final long THROWS_ILLEGAL = 2L << 40;

    private final Random random;
    private final SpaceWarden x = new SpaceWarden();
    private final Oracle o = new Oracle();
    private final int run;
    private int calls = 0;

    private OracleTest(int run) {
        this.run = run;
        this.random = new Random(run);
    }

    public static void main(String[] args) {
        for (int run = 0; run < RUNS; run++) {
            new OracleTest(run).live();
        }
        Check.finish();
    }

    private void live() {
        boolean startsByText = random.nextBoolean();
        if (startsByText) {
            text();
        }
        int textShare = random.nextInt(3);
        while (calls < CALLS) {
            int sort = random.nextInt(100);
            if (sort < 58) {
                act();
            } else if (sort < 60 + textShare) {
                if (random.nextInt(4) == 0) {
                    text();
                }
            } else if (sort < 67) {
                same("undo()", x::undo, o::undo);
            } else if (sort < 74) {
                notes();
            } else if (sort < 76) {
                images();
            } else {
                question();
            }
        }
    }

    private static long answer(IntSupplier call) {
        try {
            return call.getAsInt();
        } catch (NoSuchElementException e) {
            return THROWS_NO_SUCH;
        } catch (IllegalArgumentException e) {
            return THROWS_ILLEGAL;
        }
    }

    private void same(String call, IntSupplier got, IntSupplier want) {
        calls++;
        if (calls <= CALLS) {
            Check.due("run " + run + ", call " + calls + ": " + call, answer(got), answer(want));
        }
    }

    private int wild(int low, int high) {
        return low + random.nextInt(high - low + 1);
    }

    private int someProcess() {
        if (random.nextInt(12) == 0) {
            return wild(-2, 17);
        }
        int there = o.count(0);
        int p = random.nextInt(16);
        while ((there >> p & 1) == 0) {
            p = (p + 1) % 16;
        }
        return p;
    }

    private int someSpace(int kind) {
        return random.nextInt(10) == 0 ? wild(-2, 9) : random.nextInt(o.count(2 + kind));
    }

    private int someId() {
        int sort = random.nextInt(10);
        return sort == 0 ? wild(-2, 101) : sort < 5 ? random.nextInt(6) : random.nextInt(100);
    }

    private void act() {
        int p = someProcess();
        int q = someProcess();
        int kind = random.nextInt(20) == 0 ? wild(-1, 4) : random.nextInt(3);
        int sort = random.nextInt(100);
        if (sort < 28) {
            same("fork(" + p + ")", () -> x.fork(p), () -> o.act("fork", p));
        } else if (sort < 44) {
            same("create(" + p + ", " + kind + ")", () -> x.create(p, kind), () -> o.create(p, kind));
        } else if (sort < 60) {
            map(p);
        } else if (sort < 68) {
            int id = someId();
            same("become(" + p + ", " + id + ")", () -> x.become(p, id), () -> o.act("become", p, id));
        } else if (sort < 75) {
            int place = random.nextInt(8) == 0 ? wild(-1, 9) : random.nextInt(3);
            int thing = random.nextInt(8) == 0 ? wild(-1, 101) : random.nextInt(4);
            same("mount(" + p + ", " + place + ", " + thing + ")", () -> x.mount(p, place, thing),
                () -> o.act("mount", p, place, thing));
        } else if (sort < 79) {
            same("share(" + p + ")", () -> x.share(p), () -> o.act("share", p));
        } else if (sort < 92) {
            same("enter(" + p + ", " + q + ", " + kind + ")", () -> x.enter(p, q, kind),
                () -> o.act("enter", p, q, kind));
        } else if (sort < 96) {
            same("end(" + p + ")", () -> x.end(p), () -> o.act("end", p));
        } else {
            same("kill(" + p + ", " + q + ")", () -> x.kill(p, q), () -> o.act("kill", p, q));
        }
    }

    private void map(int p) {
        int space = someSpace(1);
        int in = someId();
        int out = someId();
        int many = random.nextInt(3) == 0 ? 1 : random.nextInt(3) == 0 ? wild(-1, 101) : wild(1, 30);
        same("map(" + p + ", " + space + ", " + in + ", " + out + ", " + many + ")",
            () -> x.map(p, space, in, out, many), () -> o.act("map", p, space, in, out, many));
    }

    private void notes() {
        int sort = random.nextInt(20);
        if (sort < 3) {
            x.forget();
            o.forget();
            calls++;
        } else if (sort < 10) {
            int space = someSpace(0);
            int number = random.nextInt(8) == 0 ? wild(-1, 22) : wild(1, 8);
            boolean there = random.nextBoolean();
            same("note(" + space + ", " + number + ", " + there + ")", () -> x.note(space, number, there),
                () -> o.note(space, number, there));
        } else if (sort < 15) {
            same("fits()", x::fits, o::fits);
        } else {
            int what = random.nextInt(10) == 0 ? wild(-1, 3) : random.nextInt(2);
            same("look(" + what + ")", () -> x.look(what), () -> o.look(what));
        }
    }

    private void images() {
        if (random.nextBoolean()) {
            x.image();
            o.image();
            calls++;
        } else {
            same("restore()", () -> x.restore() ? 1 : 0, () -> o.restore() ? 1 : 0);
        }
    }

    private void question() {
        int p = someProcess();
        int q = someProcess();
        switch (random.nextInt(15)) {
            case 0: asked("count", wild(-1, 13), what -> x.count(what), what -> o.count(what)); break;
            case 1: case 2: asked("process " + p, wild(-1, 10), what -> x.process(p, what),
                what -> o.process(p, what)); break;
            case 3: case 4: aboutSpace(); break;
            case 5: int ns = someSpace(0);
                asked("number " + p, ns, space -> x.number(p, space), space -> o.number(p, space)); break;
            case 6: int listing = someSpace(0);
                asked("listed " + listing, wild(-2, 16), i -> x.listed(listing, i), i -> o.listed(listing, i)); break;
            case 7: int in = someSpace(1);
                asked("inside " + in, someId(), id -> x.inside(in, id), id -> o.inside(in, id)); break;
            case 8: int out = someSpace(1);
                asked("outside " + out, someId(), id -> x.outside(out, id), id -> o.outside(out, id)); break;
            case 9: aboutRanges(); break;
            case 10: int ms = someSpace(2);
                asked("mounted " + ms, wild(-1, 8), place -> x.mounted(ms, place), place -> o.mounted(ms, place)); break;
            case 11: asked("may " + p + " " + q, wild(-1, 6), what -> x.may(p, q, what),
                what -> o.may(p, q, what)); break;
            case 12: asked("over " + p, someSpace(1), space -> x.over(p, space), space -> o.over(p, space)); break;
            case 13: asked("set " + p, wild(-1, 3), what -> x.set(p, what), what -> o.set(p, what)); break;
            default: asked("steps " + p, someSpace(2), space -> x.steps(p, space), space -> o.steps(p, space));
        }
    }

    private void aboutSpace() {
        int kind = random.nextInt(10) == 0 ? wild(-1, 3) : random.nextInt(3);
        int space = someSpace(kind < 0 || kind > 2 ? 0 : kind);
        asked("space " + kind + " " + space, wild(-1, 7), what -> x.space(kind, space, what),
            what -> o.space(kind, space, what));
    }

    private void aboutRanges() {
        int space = someSpace(1);
        int other = someSpace(1);
        int i = wild(-1, 3);
        asked("range " + space + " " + i, wild(-1, 3), what -> x.range(space, i, what), what -> o.range(space, i, what));
        asked("shared " + space, other, v -> x.shared(space, v), v -> o.shared(space, v));
        int seed = random.nextInt();
        int n = wild(-1, 61);
        asked("years " + seed + " " + n, wild(-1, 3), what -> x.years(seed, n, what), what -> o.years(seed, n, what));
    }

    private interface Asked {
        int ask(int with);
    }

    private void asked(String what, int with, Asked got, Asked want) {
        same(what + ", " + with, () -> got.ask(with), () -> want.ask(with));
    }

    private void text() {
        String text = random.nextInt(3) == 0 ? spoilt(clauses()) : clauses();
        if (text.length() > 900) {
            text = text.substring(0, 900);
        }
        for (int at = 0; at < text.length(); at += 20) {
            int[] w = new int[5];
            for (int i = 0; i < 20; i++) {
                char c = at + i < text.length() ? text.charAt(at + i) : ' ';
                w[i / 4] = w[i / 4] << 8 | c & 255;
            }
            same("feed", () -> x.feed(w[0], w[1], w[2], w[3], w[4]), () -> o.feed(w));
        }
        int n = random.nextInt(8) == 0 ? wild(-1, text.length() + 21) : text.length();
        String quoted = "\"" + text + "\"";
        same("spaces(" + n + ") of " + quoted, () -> x.spaces(n), () -> o.spaces(n));
        same("fault() of " + quoted, x::fault, o::fault);
    }

    private String clauses() {
        StringBuilder text = new StringBuilder();
        int many = random.nextInt(10) == 0 ? wild(55, 63) : random.nextInt(25);
        for (int i = 0; i < many; i++) {
            for (String token : clause()) {
                text.append(token).append(many > 50 ? " " : random.nextInt(6) == 0 ? "  " : random.nextInt(9) == 0 ? "\n" : " ");
            }
        }
        return text.toString();
    }

    private List<String> clause() {
        List<String> tokens = new ArrayList<>();
        String act = Oracle.ACTS.get(random.nextInt(3) == 0 ? 0 : random.nextInt(11));
        tokens.add(act);
        tokens.add(Integer.toString(random.nextInt(5)));
        switch (act) {
            case "map":
                tokens.add(Integer.toString(random.nextInt(4)));
                tokens.add(Integer.toString(random.nextInt(30)));
                tokens.add(Integer.toString(random.nextInt(30)));
                tokens.add(Integer.toString(random.nextInt(20)));
                break;
            case "become": tokens.add(Integer.toString(random.nextInt(10))); break;
            case "mount":
                tokens.add(Integer.toString(random.nextInt(8)));
                tokens.add(Integer.toString(random.nextInt(100)));
                break;
            case "enter":
                tokens.add(Integer.toString(random.nextInt(5)));
                tokens.add(Oracle.ACTS.get(1 + random.nextInt(3)));
                break;
            case "kill": tokens.add(Integer.toString(random.nextInt(5))); break;
            default:
        }
        tokens.add(";");
        return tokens;
    }

    private String spoilt(String text) {
        if (text.isEmpty()) {
            return "x";
        }
        StringBuilder spoilt = new StringBuilder(text);
        int at = random.nextInt(text.length());
        String[] bits = {"9", "16", "8", ";", "x", "A", "\t", " ", "123", "user", "\u00e9", "\0"};
        switch (random.nextInt(3)) {
            case 0: spoilt.deleteCharAt(at); break;
            case 1: spoilt.insert(at, bits[random.nextInt(bits.length)]); break;
            default: spoilt.setLength(at);
        }
        return spoilt.toString();
    }
}
