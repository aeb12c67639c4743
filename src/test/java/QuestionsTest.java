/** Promises 5 to 15: what is asked of processes and spaces. */
public final class QuestionsTest {
    public static void main(String[] args) {
        counts();
        processes();
        numberSpaces();
        userSpaces();
        mountSpaces();
        numbersAndListing();
        insideAndOutside();
        ranges();
        mountedThings();
        seesAndKills();
        maysEnter();
        powerOver();
        Check.finish();
    }

    private static void counts() {
        SpaceWarden x = Check.told("fork 0; fork 0; user 1; numbers 0; mounts 0; fork 0; become 2 5; end 3;");
        x.fork(2);
        x.note(0, 1, true);
        x.note(0, 2, true);
        x.end(0);
        x.note(9, 1, true);
        x.feed(0, 0, 0, 0, 0);
        int[] due = {15, 4, 2, 2, 2, 2, 3, 1, 2, 20, 0, 1, 1};
        for (int what = 0; what < due.length; what++) {
            Check.due("count " + what, x.count(what), due[what]);
        }
        Check.noSuch("count 13", () -> x.count(13));
        Check.noSuch("count -1", () -> x.count(-1));
        x.spaces(1);
        Check.due("texts with a fault", x.count(10), 1);
    }

    private static void processes() {
        SpaceWarden x = Check.told("fork 0; user 1; map 0 1 3 40 10; mounts 1; numbers 1; fork 1; fork 2; become 2 5;");
        int[] one = {0, 0, 1, 1, 1, 2, 0, 65534, 1, 0};
        int[] two = {1, 1, 1, 1, 1, 1, 42, 5, 0, 1};
        int[] three = {2, 1, 1, 1, 1, 2, 0, 65534, 1, 0};
        for (int what = 0; what < 10; what++) {
            Check.due("process 1, " + what, x.process(1, what), one[what]);
            Check.due("process 2, " + what, x.process(2, what), two[what]);
            Check.due("process 3, " + what, x.process(3, what), three[what]);
        }
        for (int p : new int[] {-1, 4, 16, 32, Integer.MIN_VALUE, Integer.MAX_VALUE}) {
            Check.noSuch("process " + p, () -> x.process(p, 0));
        }
        Check.noSuch("another what 10", () -> x.process(0, 10));
        Check.noSuch("another what -1", () -> x.process(0, -1));
        x.end(3);
        Check.noSuch("one that has ended", () -> x.process(3, 0));
    }

    private static void numberSpaces() {
        SpaceWarden x = Check.told("fork 0; user 1; fork 1; numbers 1; fork 1; fork 1; numbers 3; fork 3;");
        int[] root = {-1, 0, 0, 3, 0, 0, 0};
        int[] first = {0, 1, 1, 2, 3, 0, 0};
        int[] second = {1, 2, 1, 1, 5, 0, 0};
        for (int what = 0; what < 7; what++) {
            Check.due("number space 0, " + what, x.space(0, 0, what), root[what]);
            Check.due("number space 1, " + what, x.space(0, 1, what), first[what]);
            Check.due("number space 2, " + what, x.space(0, 2, what), second[what]);
        }
        Check.noSuch("no such number space", () -> x.space(0, 3, 0));
        Check.noSuch("number space -1", () -> x.space(0, -1, 0));
        Check.noSuch("number space 8", () -> x.space(0, 8, 0));
        Check.noSuch("no such kind 3", () -> x.space(3, 0, 0));
        Check.noSuch("no such kind -1", () -> x.space(-1, 0, 0));
        Check.noSuch("another what 7", () -> x.space(0, 0, 7));
        Check.noSuch("another what -1", () -> x.space(0, 0, -1));
        x.end(5);
        Check.due("the init has ended", x.space(0, 2, 4), -1);
        Check.due("dead", x.count(5), 4);
        Check.due("none is in it", x.space(0, 2, 3), 0);
        x.end(3);
        Check.due("dead, both", x.count(5), 6);
    }

    private static void userSpaces() {
        SpaceWarden x = Check.told("fork 0; become 1 7; user 1; map 0 1 0 0 9; fork 1; become 2 3; user 2;");
        int[] root = {-1, 0, 0, 1, 0, 0, 0};
        int[] first = {0, 1, 7, 1, 1, 0, 0};
        int[] second = {1, 2, 3, 1, 0, 0, 0};
        for (int what = 0; what < 7; what++) {
            Check.due("user space 0, " + what, x.space(1, 0, what), root[what]);
            Check.due("user space 1, " + what, x.space(1, 1, what), first[what]);
            Check.due("user space 2, " + what, x.space(1, 2, what), second[what]);
        }
        Check.noSuch("no such user space", () -> x.space(1, 3, 0));
        Check.noSuch("another what", () -> x.space(1, 0, 7));
    }

    private static void mountSpaces() {
        SpaceWarden x = Check.told("mount 0 1 5; mount 0 7 6; fork 0; user 1; mounts 1; fork 1; mounts 2; mount 1 1 0;"
            + "share 1;");
        int[] root = {-1, 0, 0, 1, 2, 0, 1};
        int[] first = {0, 1, 1, 1, 1, 1, 6};
        int[] second = {1, 2, 1, 1, 2, 0, 4};
        for (int what = 0; what < 7; what++) {
            Check.due("mount space 0, " + what, x.space(2, 0, what), root[what]);
            Check.due("mount space 1, " + what, x.space(2, 1, what), first[what]);
            Check.due("mount space 2, " + what, x.space(2, 2, what), second[what]);
        }
        x.share(0);
        Check.due("spreads on from a shared one", x.space(2, 0, 6), 7);
        x.share(1);
        Check.due("not on from one that isn't", x.space(2, 0, 6), 3);
        Check.noSuch("no such mount space", () -> x.space(2, 3, 0));
        Check.noSuch("another what", () -> x.space(2, 0, 7));
    }

    private static void numbersAndListing() {
        SpaceWarden x = Check.told("fork 0; numbers 0; fork 0; fork 2; enter 0 1 numbers; fork 0; end 1; fork 0;");
        Check.due("number in the root", x.number(2, 0), 3);
        Check.due("number as an init", x.number(2, 1), 1);
        Check.due("number of one within", x.number(3, 0), 4);
        Check.due("number in its own", x.number(3, 1), 2);
        Check.due("none in a space it isn't in", x.number(4, 1), -1);
        Check.due("the process's number is used again, the space's isn't yet", x.number(1, 0), 6);
        Check.noSuch("no such process", () -> x.number(5, 0));
        Check.noSuch("no such space", () -> x.number(0, 2));
        Check.noSuch("space -1", () -> x.number(0, -1));
        int[] due = {0, 2, 3, 4, 1};
        Check.due("how many in the root", x.listed(0, -1), 5);
        for (int i = 0; i < due.length; i++) {
            Check.due("listed " + i, x.listed(0, i), due[i]);
        }
        Check.noSuch("listed 5", () -> x.listed(0, 5));
        Check.noSuch("listed -2", () -> x.listed(0, -2));
        Check.due("how many in 1", x.listed(1, -1), 2);
        Check.due("the first in 1", x.listed(1, 0), 2);
        Check.noSuch("no such space", () -> x.listed(2, -1));
        x.end(2);
        Check.due("none is left there", x.listed(1, -1), 0);
        Check.noSuch("listed of none", () -> x.listed(1, 0));
        x.fork(1);
        x.fork(1);
        Check.due("a process's number comes again without the other one's", x.number(3, 1), -1);
        Check.due("none is there still", x.listed(1, -1), 0);
        SpaceWarden y = new SpaceWarden();
        for (int number = 2; number < 20; number++) {
            y.fork(0);
            y.end(1);
        }
        y.fork(0);
        Check.due("number 20", y.number(1, 0), 20);
        Check.due("listed with it", y.listed(0, -1), 2);
        Check.due("the process of number 20", y.listed(0, 1), 1);
    }

    private static void insideAndOutside() {
        SpaceWarden x = Check.told("fork 0; user 1; map 0 1 0 10 20; map 0 1 50 60 1; user 1; map 0 2 5 15 3; "
            + "map 0 2 99 50 1; user 1;");
        Check.due("root inside itself", x.inside(0, 77), 77);
        Check.due("root outside itself", x.outside(0, 77), 77);
        Check.due("first of a range", x.inside(1, 10), 0);
        Check.due("last of a range", x.inside(1, 29), 19);
        Check.due("behind a range", x.inside(1, 30), 65534);
        Check.due("ahead of a range", x.inside(1, 9), 65534);
        Check.due("another range", x.inside(1, 60), 50);
        Check.due("two deep", x.inside(2, 26), 6);
        Check.due("two deep, by another range", x.inside(2, 60), 99);
        Check.due("known in the parent alone", x.inside(2, 10), 65534);
        Check.due("a range of nobody's", x.inside(2, 15), 65534);
        Check.due("without ranges", x.inside(3, 26), 65534);
        Check.due("first outside", x.outside(1, 0), 10);
        Check.due("last outside", x.outside(1, 19), 29);
        Check.due("none outside", x.outside(1, 20), 65534);
        Check.due("two deep outside", x.outside(2, 7), 27);
        Check.due("two deep outside, by another range", x.outside(2, 99), 60);
        Check.due("none two deep", x.outside(2, 8), 65534);
        Check.due("without ranges outside", x.outside(3, 5), 65534);
        Check.noSuch("inside of no space", () -> x.inside(4, 5));
        Check.noSuch("inside of no space comes first", () -> x.inside(4, 100));
        Check.noSuch("outside of no space", () -> x.outside(-1, 5));
        Check.noSuch("outside of no space comes first", () -> x.outside(-1, -1));
        Check.illegal("inside of 100", () -> x.inside(1, 100));
        Check.illegal("inside of -1", () -> x.inside(1, -1));
        Check.illegal("outside of 100", () -> x.outside(1, 100));
        Check.illegal("outside of -1", () -> x.outside(1, -1));
    }

    private static void ranges() {
        SpaceWarden x = Check.told("fork 0; user 1; map 0 1 50 5 3; map 0 1 20 60 4; map 0 1 0 40 1;");
        int[][] due = {{0, 40, 1}, {20, 60, 4}, {50, 5, 3}};
        for (int i = 0; i < 3; i++) {
            for (int what = 0; what < 3; what++) {
                Check.due("range " + i + ", " + what, x.range(1, i, what), due[i][what]);
            }
        }
        Check.noSuch("range 3", () -> x.range(1, 3, 0));
        Check.noSuch("range -1", () -> x.range(1, -1, 0));
        Check.noSuch("the root has none", () -> x.range(0, 0, 0));
        Check.noSuch("no such space", () -> x.range(2, 0, 0));
        Check.noSuch("space 8", () -> x.range(8, 0, 0));
        Check.noSuch("space -1", () -> x.range(-1, 0, 0));
        Check.noSuch("another what 3", () -> x.range(1, 0, 3));
        Check.noSuch("another what -1", () -> x.range(1, 0, -1));
    }

    private static void mountedThings() {
        SpaceWarden x = Check.told("mount 0 0 99; mount 0 7 1; fork 0; mounts 1; mount 1 0 2;");
        Check.due("place 0", x.mounted(0, 0), 99);
        Check.due("place 7", x.mounted(0, 7), 1);
        Check.due("place 1", x.mounted(0, 1), 0);
        Check.due("another one's", x.mounted(1, 0), 2);
        Check.due("a copy", x.mounted(1, 7), 1);
        Check.due("places with a thing", x.space(2, 0, 4), 2);
        SpaceWarden y = Check.told("mount 0 0 9; fork 0; mounts 1;");
        Check.due("a copy of place 0", y.mounted(1, 0), 9);
        Check.noSuch("place 8", () -> x.mounted(0, 8));
        Check.noSuch("place -1", () -> x.mounted(0, -1));
        Check.noSuch("no such space", () -> x.mounted(2, 0));
    }

    private static void seesAndKills() {
        // 1 in the root; 2 an init of space 1, 3 in space 1; all of ID 0 but 3 and 4, which are of ID 5 without power.
        SpaceWarden x = Check.told("fork 0; numbers 0; fork 0; fork 2; fork 1; become 3 5; become 4 5;");
        int[][] sees = {{1, 1, 1, 1, 1}, {1, 1, 1, 1, 1}, {0, 0, 1, 1, 0}, {0, 0, 1, 1, 0}, {1, 1, 1, 1, 1}};
        int[][] kills = {{0, 1, 1, 1, 1}, {0, 1, 1, 1, 1}, {0, 0, 0, 1, 0}, {0, 0, 0, 1, 0}, {0, 0, 0, 1, 1}};
        int[] over = {1, 1, 1, 0, 0};
        for (int p = 0; p < 5; p++) {
            for (int q = 0; q < 5; q++) {
                Check.due(p + " sees " + q, x.may(p, q, 0), sees[p][q]);
                Check.due(p + " has power over " + q + "'s space", x.may(p, q, 1), over[p]);
                Check.due(p + " could kill " + q, x.may(p, q, 2), kills[p][q]);
            }
        }
        Check.noSuch("no such p", () -> x.may(5, 0, 0));
        Check.noSuch("no such q", () -> x.may(0, 5, 0));
        Check.noSuch("q -1", () -> x.may(0, -1, 0));
        Check.noSuch("another what 6", () -> x.may(0, 1, 6));
        Check.noSuch("another what -1", () -> x.may(0, 1, -1));
        SpaceWarden y = Check.told("fork 0; user 1; map 0 1 0 0 9; become 1 4; fork 0; become 2 4; fork 0; become 3 5;");
        Check.due("the same ID in another user space", y.may(2, 1, 2), 1);
        Check.due("another ID", y.may(3, 1, 2), 0);
        Check.due("power over its user space", y.may(0, 1, 2), 1);
        Check.due("not out of it", y.may(1, 0, 2), 0);
    }

    private static void maysEnter() {
        SpaceWarden x = Check.told("fork 0; fork 0; user 1; mounts 1; numbers 1; fork 1; fork 0; become 4 3; fork 3;");
        Check.due("user: inward", x.may(0, 1, 3), 1);
        Check.due("user: its own", x.may(0, 2, 3), 0);
        Check.due("user: outward", x.may(1, 0, 3), 0);
        Check.due("user: oneself", x.may(1, 1, 3), 0);
        Check.due("user: without power", x.may(4, 1, 3), 0);
        Check.due("numbers: within", x.may(0, 3, 4), 1);
        Check.due("numbers: its children's already", x.may(1, 3, 4), 0);
        Check.due("numbers: back to its own, of which it hasn't the keeper", x.may(1, 0, 4), 0);
        Check.due("numbers: its own is its children's", x.may(0, 2, 4), 0);
        Check.due("numbers: not seen", x.may(3, 0, 4), 0);
        Check.due("numbers: without power", x.may(4, 3, 4), 0);
        Check.due("mounts: inward", x.may(0, 1, 5), 1);
        Check.due("mounts: its own", x.may(0, 2, 5), 0);
        Check.due("mounts: the keeper isn't in its power", x.may(1, 0, 5), 0);
        Check.due("mounts: without power", x.may(4, 1, 5), 0);
        Check.due("mounts: not seen", x.may(3, 2, 5), 0);
        // An owner without power has power over the space that it owns, but enters no mounts of it yet.
        SpaceWarden y = Check.told("fork 0; become 1 7; fork 1; user 2; mounts 2;");
        Check.due("user: by owning it", y.may(1, 2, 3), 1);
        Check.due("mounts: power over the keeper isn't enough", y.may(1, 2, 5), 0);
        y.enter(1, 2, 1);
        Check.due("mounts: with power", y.may(1, 2, 5), 1);
        SpaceWarden z = Check.told("fork 0; numbers 0;");
        Check.due("numbers: back to its own", z.may(0, 1, 4), 1);
        Check.due("numbers: not by oneself", z.may(0, 0, 4), 0);
    }

    private static void powerOver() {
        // User spaces 1 (owner 7) in the root, 2 (owner 7) in 1, 3 (owner 8) in 1.
        SpaceWarden x = Check.told("fork 0; fork 0; fork 0; become 1 7; become 2 7; user 2; map 0 1 0 0 20; fork 2;"
            + "user 2; become 4 8; user 4;");
        int[][] due = {{1, 1, 1, 1}, {0, 1, 1, 1}, {0, 0, 1, 0}, {1, 1, 1, 1}, {0, 0, 0, 1}};
        for (int p = 0; p < 5; p++) {
            for (int space = 0; space < 4; space++) {
                Check.due(p + " has power over " + space, x.over(p, space), due[p][space]);
            }
        }
        x.become(3, 8);
        Check.due("not the owner, without power", x.over(3, 1), 0);
        Check.due("the owner of one within, from further out", x.over(3, 3), 0);
        Check.noSuch("no such process", () -> x.over(5, 0));
        Check.noSuch("no such space", () -> x.over(0, 4));
        Check.noSuch("space -1", () -> x.over(0, -1));
    }
}
