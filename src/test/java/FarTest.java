/** Promises 26 to 35: what would be, what was noted, years, images. */
public final class FarTest {
    public static void main(String[] args) {
        falls();
        reaches();
        sharedIds();
        steps();
        roams();
        notes();
        fits();
        looks();
        notesOfSpacesThatAreGone();
        forgets();
        years();
        yearsLeaveAllAsEver();
        images();
        imageKeepsActs();
        Check.finish();
    }

    private static void falls() {
        SpaceWarden x = Check.told("fork 0; numbers 1; fork 1; fork 2; numbers 3; fork 3; fork 0;");
        int[] due = {0, 2, 28, 8, 16, 32};
        for (int p = 0; p < 6; p++) {
            Check.due("fall of " + p, x.set(p, 0), due[p]);
        }
        Check.due("nobody has ended", x.count(0), 63);
        Check.noSuch("no such process", () -> x.set(6, 0));
        Check.noSuch("process -1", () -> x.set(-1, 0));
        Check.noSuch("another what 3", () -> x.set(0, 3));
        Check.noSuch("another what -1", () -> x.set(0, -1));
    }

    private static void reaches() {
        SpaceWarden x = Check.told("fork 0; numbers 1; fork 1; fork 2; become 3 5; fork 0; become 4 5; fork 0; user 5;");
        // 5 is in its own user space: it has power over no other, but the ID of 1, 2 and itself.
        int[] due = {62, 62, 8, 8, 24, 38};
        for (int p = 0; p < 6; p++) {
            Check.due("reach of " + p, x.set(p, 1), due[p]);
        }
    }

    private static void sharedIds() {
        SpaceWarden x = Check.told("fork 0; fork 0; user 1; user 2; map 0 1 0 0 10; map 0 2 50 5 10; user 2; map 0 3 0 50 3;"
            + "user 1;");
        Check.due("width of the root", x.shared(0, 0), 100);
        Check.due("width of 1", x.shared(1, 1), 10);
        Check.due("width of 3", x.shared(3, 3), 3);
        Check.due("the root and 1", x.shared(0, 1), 10);
        Check.due("1 and 2", x.shared(1, 2), 5);
        Check.due("2 and 1", x.shared(2, 1), 5);
        Check.due("1 and 3", x.shared(1, 3), 3);
        Check.due("without ranges", x.shared(4, 4), 0);
        Check.due("with one without ranges", x.shared(1, 4), 0);
        Check.noSuch("no such space", () -> x.shared(0, 5));
        Check.noSuch("no such other", () -> x.shared(5, 0));
        Check.noSuch("space -1", () -> x.shared(-1, 0));
    }

    private static void steps() {
        // 1 of ID 7 without power owns user space 1, where 2 has a mount space.
        SpaceWarden x = Check.told("fork 0; become 1 7; fork 1; user 2; mounts 2; fork 0; mounts 3;");
        Check.due("its own", x.steps(1, 0), 0);
        Check.due("power comes by entering the user space first", x.steps(1, 1), 2);
        Check.due("none", x.steps(1, 2), -1);
        Check.due("at once", x.steps(0, 1), 1);
        Check.due("outward", x.steps(2, 0), -1);
        Check.due("nothing changed", x.process(1, 2), 0);
        Check.noSuch("no such process", () -> x.steps(4, 0));
        Check.noSuch("no such space", () -> x.steps(0, 3));
        Check.noSuch("space -1", () -> x.steps(0, -1));
        // The user space lies two in, and the one between has an owner of ID 7 whose handle is seen.
        SpaceWarden y = Check.told("fork 0; become 1 7; fork 1; user 2; fork 2; user 3; mounts 3; mounts 2;");
        Check.due("by the nearest user space", y.steps(1, 1), 2);
        Check.due("the nearer one", y.steps(1, 2), 2);
        // Whoever is in a space with no one else in it can't be followed by those that don't see him.
        SpaceWarden z = Check.told("numbers 0; fork 0; mounts 0; fork 1;");
        Check.due("not by those that it doesn't see", z.steps(1, 1), -1);
        Check.due("itself", z.steps(0, 0), 1);
        SpaceWarden v = Check.told("fork 0; mounts 0;");
        Check.due("by process 0", v.steps(1, 1), 1);
        SpaceWarden w = Check.told("fork 0; mounts 1; end 1;");
        Check.due("a space that none is in", w.steps(0, 1), -1);
    }

    private static void roams() {
        SpaceWarden x = Check.told("fork 0; become 1 7; fork 1; user 2; mounts 2; fork 0; mounts 3; fork 2; mounts 4;");
        Check.due("of 0", x.set(0, 2), 15);
        Check.due("of 1", x.set(1, 2), 11);
        Check.due("of 2", x.set(2, 2), 10);
        Check.due("of 3", x.set(3, 2), 15);
        SpaceWarden y = new SpaceWarden();
        Check.due("alone", y.set(0, 2), 1);
    }

    private static void notes() {
        SpaceWarden x = Check.told("fork 0; numbers 0;");
        for (int i = 1; i <= 8; i++) {
            Check.due("note", x.note(i % 2, 20, i % 2 == 0), i);
        }
        Check.due("a ninth", x.note(0, 1, true), -1);
        Check.due("STATUS 2", x.count(12), 1);
        Check.due("noted", x.count(8), 8);
        x.forget();
        Check.due("no such space", x.note(2, 1, true), -1);
        Check.due("space -1", x.note(-1, 1, true), -1);
        Check.due("number 0", x.note(0, 0, true), -1);
        Check.due("number 21", x.note(0, 21, true), -1);
        Check.due("STATUS 2", x.count(12), 5);
        Check.due("none noted", x.count(8), 0);
        Check.due("acts aren't refused by it", x.count(11), 0);
        Check.due("1", x.note(1, 1, true), 1);
        Check.due("the same again", x.note(1, 1, true), 2);
    }

    private static void fits() {
        SpaceWarden x = Check.told("fork 0; numbers 1; fork 1; fork 2; fork 0;");
        Check.due("nothing noted", x.fits(), 30);
        x.note(1, 2, false);
        Check.due("3 has no number there: 2's end or its own", x.fits(), 12);
        x.note(1, 1, true);
        Check.due("2 is there", x.fits(), 8);
        x.note(0, 2, false);
        Check.due("two ends at once: none", x.fits(), 0);
        x.forget();
        x.note(0, 7, false);
        Check.due("nobody's in any case", x.fits(), 30);
        x.note(0, 7, true);
        Check.due("against that", x.fits(), 0);
        x.forget();
        x.note(0, 1, true);
        x.note(0, 5, false);
        Check.due("4's number in the root", x.fits(), 16);
        Check.due("nobody has ended", x.count(0), 31);
    }

    private static void looks() {
        SpaceWarden x = Check.told("fork 0; numbers 1; fork 1; fork 2; fork 0;");
        // By 2's end the numbers of 2 and of 3 go, by 3's end 3's: 3's are nobody's by two of four ends.
        Check.due("which", x.look(0), 4);
        Check.due("the lesser of both", x.look(1), 2);
        x.note(1, 2, false);
        Check.due("which, of two ends", x.look(0), 3);
        Check.due("the lesser, of two ends", x.look(1), 1);
        x.note(1, 1, true);
        Check.due("none, of one end", x.look(0), -1);
        Check.due("0, of one end", x.look(1), 0);
        Check.noSuch("another what 2", () -> x.look(2));
        Check.noSuch("another what -1", () -> x.look(-1));
        SpaceWarden w = Check.told("fork 0; end 1; ".repeat(18) + "numbers 0; fork 0; fork 1;");
        w.note(1, 2, false);
        Check.due("an init, or one in its space", w.fits(), 6);
        Check.due("the init's number in the root, 20", w.look(0), 20);
        SpaceWarden y = new SpaceWarden();
        Check.due("none, of no end", y.look(0), -1);
        Check.due("0, of no end", y.look(1), 0);
        SpaceWarden z = Check.told("fork 0; fork 0; end 1; end 2; fork 0; fork 0; fork 0; numbers 0; fork 0; numbers 4;"
            + "fork 4; fork 4; fork 4;");
        z.note(0, 8, true);
        // By the ends of 1, 2, 3, 6 and 7: of each only its own numbers go; the least is 1's.
        Check.due("the least of like ones", z.look(0), 4);
        Check.due("the lesser", z.look(1), 1);
    }

    private static void notesOfSpacesThatAreGone() {
        SpaceWarden x = Check.told("fork 0; fork 0;");
        x.create(0, 0);
        x.fork(0);
        x.note(1, 1, true);
        Check.due("somebody's by two ends", x.fits(), 6);
        x.undo();
        Check.due("nobody's, as none is in it", x.fits(), 0);
        x.undo();
        Check.due("nobody's, as there is no such space any more", x.fits(), 0);
        x.forget();
        x.create(0, 0);
        x.fork(0);
        x.note(1, 1, false);
        Check.due("nobody's by one end", x.fits(), 8);
        x.undo();
        x.undo();
        Check.due("nobody's by any end then", x.fits(), 6);
        Check.due("notes aren't undone", x.count(8), 1);
        Check.due("none can be noted of it", x.note(1, 1, false), -1);
    }

    private static void forgets() {
        SpaceWarden x = Check.told("fork 0;");
        x.note(0, 2, true);
        x.note(0, 30, true);
        Check.due("none fits", x.fits(), 0);
        x.forget();
        Check.due("none noted", x.count(8), 0);
        Check.due("STATUS stays", x.count(12), 1);
        Check.due("all fit", x.fits(), 2);
        x.forget();
        Check.due("forgotten twice", x.count(8), 0);
    }

    /** The draws of a seed, told here again. */
    private static int seed;

    private static int draw(int n) {
        seed = seed * 1103515245 + 12345;
        return (seed >> 16 & 32767) % n;
    }

    /** Years as calls of another object: its processes, acts done, and depth. */
    static int[] lived(SpaceWarden y, int from, int n) {
        seed = from;
        int done = 0;
        for (int i = 0; i < n; i++) {
            int act = draw(11);
            int p = draw(16);
            int answer;
            switch (act) {
                case 0: answer = y.fork(p); break;
                case 1: answer = y.create(p, 1); break;
                case 2: answer = y.create(p, 0); break;
                case 3: answer = y.create(p, 2); break;
                case 4: answer = y.map(p, draw(8), draw(100), draw(100), 1 + draw(20)); break;
                case 5: answer = y.become(p, draw(100)); break;
                case 6: answer = y.mount(p, draw(8), draw(100)); break;
                case 7: answer = y.enter(p, draw(16), new int[] {1, 0, 2}[draw(3)]); break;
                case 8: answer = y.end(p); break;
                case 9: answer = y.kill(p, draw(16)); break;
                default: answer = y.share(p);
            }
            done += answer == -1 ? 0 : 1;
        }
        int deepest = 0;
        for (int p = 0; p < 16; p++) {
            if ((y.count(0) >> p & 1) == 1) {
                deepest = Math.max(deepest, y.space(0, y.process(p, 1), 1));
            }
        }
        return new int[] {y.count(1), done, deepest};
    }

    private static void years() {
        String text = "fork 0; fork 0; fork 0; user 1; numbers 2; fork 2; map 0 1 0 0 50; fork 1; fork 0; numbers 4; fork 4;"
            + "fork 0; user 8; fork 0; user 9; fork 0; user 10; fork 0; user 11; fork 0; user 12; fork 0; user 13;";
        int most = 0;
        for (int from = -400; from < 400; from++) {
            int n = (from + 400) % 61;
            int start = from * 7919 * 65537;
            int[] due = lived(Check.told(text), start, n);
            SpaceWarden x = Check.told(text);
            for (int what = 0; what < 3; what++) {
                Check.due("years of " + start + ", " + n + ", " + what, x.years(start, n, what), due[what]);
            }
            most = Math.max(most, due[1]);
        }
        Check.yes("some years are full of acts", most > 8);
        SpaceWarden x = Check.told(text);
        Check.due("no years: processes", x.years(5, 0, 0), 14);
        Check.due("no years: acts", x.years(5, 0, 1), 0);
        Check.due("no years: depth", x.years(5, 0, 2), 2);
        Check.noSuch("another what 3", () -> x.years(1, 1, 3));
        Check.noSuch("another what -1", () -> x.years(1, 1, -1));
        Check.noSuch("another what comes first", () -> x.years(1, 61, 3));
        Check.illegal("n 61", () -> x.years(1, 61, 0));
        Check.illegal("n -1", () -> x.years(1, -1, 0));
    }

    private static void yearsLeaveAllAsEver() {
        SpaceWarden x = Check.told("fork 0; fork 0;");
        x.fork(1);
        x.note(0, 2, true);
        x.image();
        for (int from = 0; from < 50; from++) {
            x.years(from * 77777, 60, from % 3);
        }
        int[] due = {15, 4, 1, 1, 1, 0, 15, 1, 1, 0, 0, 0, 0};
        for (int what = 0; what < due.length; what++) {
            Check.due("behind years: count " + what, x.count(what), due[what]);
        }
        Check.due("the next number", x.fork(0), 4);
        Check.due("as if there had been no years", x.number(4, 0), 5);
        Check.yes("the image is kept", x.restore());
    }

    private static void images() {
        SpaceWarden x = Check.told("fork 0; mount 0 1 1;");
        Check.no("no image yet", x.restore());
        x.fork(9);
        x.note(0, 2, true);
        x.note(9, 2, true);
        Check.tell(x, "no;");
        Check.no("a refused text makes none", x.restore());
        x.image();
        x.fork(0);
        x.create(1, 1);
        x.mount(0, 1, 3);
        x.fork(9);
        x.note(0, 3, true);
        x.note(9, 2, true);
        Check.tell(x, "  no;");
        Check.tape(x, "fork 0;");
        Check.yes("restore", x.restore());
        int[] due = {3, 2, 1, 1, 1, 0, 3, 0, 1, 20, 1, 1, 1};
        for (int what = 0; what < due.length; what++) {
            Check.due("restored: count " + what, x.count(what), due[what]);
        }
        Check.due("restored: a thing", x.mounted(0, 1), 1);
        Check.due("the latest text's fault is no part of it", x.fault(), 2);
        Check.due("restored: what is noted", x.fits(), 0);
        x.forget();
        x.note(0, 1, false);
        x.fork(0);
        Check.yes("restore again", x.restore());
        Check.due("noted: not 1's end", x.fits(), 0);
        x.forget();
        x.create(0, 0);
        x.fork(0);
        x.note(1, 1, false);
        x.image();
        x.forget();
        x.note(0, 2, true);
        Check.yes("restore what is noted", x.restore());
        Check.due("as it was noted", x.fits(), 4);
        x.forget();
        x.undo();
        x.undo();
        x.note(0, 2, true);
        x.image();
        Check.due("restored again", x.count(0), 3);
        Check.due("noted again", x.count(8), 1);
        x.fork(0);
        x.image();
        x.fork(0);
        Check.yes("of the later image", x.restore());
        Check.due("the later one", x.count(0), 7);
        x.spaces(7);
        Check.no("gone by a text", x.restore());
        Check.due("as that text tells", x.count(0), 3);
        x.image();
        x.fork(0);
        Check.yes("an image again", x.restore());
        Check.due("as it was", x.count(0), 3);
    }

    private static void imageKeepsActs() {
        SpaceWarden x = new SpaceWarden();
        for (int i = 1; i <= 50; i++) {
            x.mount(0, 0, i);
        }
        x.undo();
        x.image();
        for (int i = 1; i <= 45; i++) {
            x.mount(0, 1, i);
        }
        Check.yes("restore", x.restore());
        Check.due("kept acts", x.count(7), 39);
        for (int i = 38; i >= 0; i--) {
            Check.due("undo", x.undo(), i);
            Check.due("as ahead of it", x.mounted(0, 0), i + 10);
        }
        Check.due("none left", x.undo(), -1);
        Check.yes("restore again", x.restore());
        Check.due("kept acts again", x.count(7), 39);
        Check.due("as it was", x.mounted(0, 0), 49);
        Check.due("undo again", x.undo(), 38);
        Check.due("as ahead of it again", x.mounted(0, 0), 48);
    }
}
