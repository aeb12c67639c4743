/** Promises 16 to 25: the acts, and undo. */
public final class ActsTest {
    private static SpaceWarden x;
    private static int refused;

    public static void main(String[] args) {
        forks();
        numbersComeLate();
        createsUsers();
        createsNumbers();
        createsMounts();
        limitsOfSpaces();
        maps();
        mapsInTwoDepths();
        becomes();
        mountsThings();
        shares();
        entersUsers();
        entersNumbers();
        entersMounts();
        ends();
        endsOfInits();
        orphans();
        kills();
        undoes();
        keepsForty();
        undoesAll();
        Check.finish();
    }

    private static void start(String text) {
        x = Check.told(text);
        refused = 0;
    }

    /** An act that can't be: NONE, counted, and not kept. */
    private static void refuses(String call, int answer) {
        refused++;
        Check.due(call, answer, -1);
        Check.due(call + " is counted", x.count(11), refused);
    }

    private static void forks() {
        start("mount 0 1 2; fork 0; user 1; mounts 1; map 1 1 0 0 1;");
        Check.due("fork", x.fork(1), 2);
        int[] due = {1, 0, 1, 1, 0, 3, 0, 0, 1, 0};
        for (int what = 0; what < due.length; what++) {
            Check.due("the child's " + what, x.process(2, what), due[what]);
        }
        Check.due("kept", x.count(7), 1);
        refuses("fork of none", x.fork(3));
        refuses("fork of -1", x.fork(-1));
        refuses("fork of 16", x.fork(16));
        Check.due("refused ones aren't kept", x.count(7), 1);
        x.become(0, 5);
        x.fork(0);
        Check.due("ID of its parent", x.process(3, 6), 5);
        Check.due("no power as its parent", x.process(3, 8), 0);
        x.end(1);
        Check.due("the least number that there isn't", x.fork(0), 1);
        start("fork 0;".repeat(15));
        Check.due("sixteen", x.count(1), 16);
        refuses("a seventeenth", x.fork(0));
        start("fork 0; numbers 0; fork 0; end 2;");
        refuses("into a dead space", x.fork(0));
        Check.due("another one's child isn't", x.fork(1), 2);
    }

    private static void numbersComeLate() {
        start("");
        for (int round = 2; round <= 20; round++) {
            Check.due("fork", x.fork(0), 1);
            Check.due("number " + round, x.number(1, 0), round);
            Check.due("end", x.end(1), 2);
        }
        x.fork(0);
        Check.due("behind 20 comes 2", x.number(1, 0), 2);
        x.fork(0);
        for (int round = 4; round <= 20; round++) {
            x.fork(0);
            Check.due("number " + round, x.number(3, 0), round);
            x.end(3);
        }
        x.fork(0);
        Check.due("behind 20 the first that none has", x.number(3, 0), 4);
        start("fork 0; numbers 1; fork 1; fork 1; end 3; fork 0; fork 1;");
        Check.due("numbers of each space run apart: in 0", x.number(4, 0), 6);
        Check.due("numbers of each space run apart: in 1", x.number(4, 1), 3);
        Check.due("the other in 0", x.number(3, 0), 5);
        start("fork 0; numbers 1; fork 1; numbers 2; fork 2; fork 2;");
        Check.due("one in each around: 0", x.number(4, 0), 5);
        Check.due("one in each around: 1", x.number(4, 1), 3);
        Check.due("one in each around: 2", x.number(4, 2), 2);
        Check.due("first in 2", x.number(3, 2), 1);
        Check.due("first in 2, in 1", x.number(3, 1), 2);
    }

    private static void createsUsers() {
        start("fork 0; become 1 4;");
        Check.due("user, without power", x.create(1, 1), 1);
        Check.due("in it", x.process(1, 2), 1);
        Check.due("with power", x.process(1, 8), 1);
        Check.due("owner", x.space(1, 1, 2), 4);
        Check.due("parent", x.space(1, 1, 0), 0);
        Check.due("without ranges", x.space(1, 1, 4), 0);
        Check.due("the ID stays", x.process(1, 6), 4);
        Check.due("nobody there", x.process(1, 7), 65534);
        refuses("no such process", x.create(2, 1));
        refuses("kind 3", x.create(0, 3));
        refuses("kind -1", x.create(0, -1));
    }

    private static void createsNumbers() {
        start("fork 0; user 1; fork 0; become 2 9;");
        refuses("without power", x.create(2, 0));
        Check.due("numbers", x.create(1, 0), 1);
        Check.due("not in it", x.process(1, 1), 0);
        Check.due("its children's", x.process(1, 4), 1);
        Check.due("keeper", x.space(0, 1, 2), 1);
        Check.due("parent", x.space(0, 1, 0), 0);
        Check.due("no init yet", x.space(0, 1, 4), -1);
        Check.due("not dead", x.count(5), 0);
        refuses("children's isn't its own", x.create(1, 0));
        x.fork(1);
        Check.due("a child in it may", x.create(3, 0), 2);
        Check.due("within it", x.space(0, 2, 0), 1);
        refuses("no such process", x.create(9, 0));
    }

    private static void createsMounts() {
        start("mount 0 1 5; share 0; fork 0; user 1; fork 0; become 2 9;");
        refuses("without power", x.create(2, 2));
        Check.due("mounts", x.create(1, 2), 1);
        Check.due("in it", x.process(1, 3), 1);
        Check.due("keeper", x.space(2, 1, 2), 1);
        Check.due("parent", x.space(2, 1, 0), 0);
        Check.due("a copy", x.mounted(1, 1), 5);
        Check.due("not shared", x.space(2, 1, 5), 0);
        Check.due("the other one still is", x.space(2, 0, 5), 1);
        refuses("no such process", x.create(9, 2));
    }

    private static void limitsOfSpaces() {
        for (int kind = 1; kind <= 2; kind++) {
            start("fork 0;");
            for (int depth = 1; depth <= 4; depth++) {
                Check.due("create, kind " + kind, x.create(1, kind), depth);
                Check.due("how deep", x.space(kind, depth, 1), depth);
            }
            refuses("5 deep", x.create(1, kind));
            for (int more = 5; more <= 7; more++) {
                x.fork(0);
                Check.due("create, kind " + kind, x.create(more - 3, kind), more);
            }
            x.fork(0);
            refuses("a ninth", x.create(5, kind));
        }
        start("");
        int last = 0;
        for (int depth = 1; depth <= 4; depth++) {
            Check.due("numbers", x.create(last, 0), depth);
            last = x.fork(last);
        }
        refuses("numbers 5 deep", x.create(last, 0));
        start("fork 0; fork 0; fork 0; fork 0; fork 0; fork 0; fork 0;"
            + "numbers 0; numbers 1; numbers 2; numbers 3; numbers 4; numbers 5; numbers 6;");
        Check.due("eight", x.count(2), 8);
        refuses("a ninth", x.create(7, 0));
    }

    private static void maps() {
        start("fork 0; become 1 4; user 1; fork 0; become 2 4; fork 0; become 3 5;");
        refuses("the root", x.map(0, 0, 50, 50, 1));
        refuses("no such space", x.map(0, 2, 0, 0, 1));
        refuses("space -1", x.map(0, -1, 0, 0, 1));
        refuses("no such process", x.map(4, 1, 0, 0, 1));
        refuses("many 0", x.map(0, 1, 0, 0, 0));
        refuses("many -1", x.map(0, 1, 0, 0, -1));
        refuses("many 100", x.map(0, 1, 0, 0, 100));
        refuses("many, the greatest", x.map(0, 1, 0, 0, Integer.MAX_VALUE));
        refuses("inside -1", x.map(0, 1, -1, 0, 1));
        refuses("inside 100", x.map(0, 1, 100, 0, 1));
        refuses("outside -1", x.map(0, 1, 0, -1, 1));
        refuses("outside 100", x.map(0, 1, 0, 100, 1));
        refuses("inside beyond 99", x.map(0, 1, 91, 0, 10));
        refuses("outside beyond 99", x.map(0, 1, 0, 91, 10));
        refuses("one in it, more than one", x.map(1, 1, 0, 4, 2));
        refuses("one in it, another ID than its own", x.map(1, 1, 0, 5, 1));
        refuses("not the owner", x.map(3, 1, 0, 5, 1));
        refuses("not the owner, the owner's ID", x.map(3, 1, 0, 4, 1));
        Check.due("the owner from outside", x.map(2, 1, 10, 4, 1), 1);
        refuses("outside again", x.map(0, 1, 30, 4, 1));
        refuses("inside again", x.map(0, 1, 10, 30, 1));
        refuses("inside in common, its first", x.map(0, 1, 10, 30, 5));
        refuses("inside in common, its last", x.map(0, 1, 6, 30, 5));
        refuses("outside in common, its first", x.map(0, 1, 30, 4, 5));
        refuses("outside in common, its last", x.map(0, 1, 30, 0, 5));
        Check.due("right ahead of it", x.map(0, 1, 6, 0, 4), 2);
        refuses("round a range", x.map(0, 1, 3, 20, 9));
        Check.due("right behind it", x.map(0, 1, 11, 5, 4), 3);
        x.undo();
        Check.due("up to 99", x.map(0, 1, 90, 90, 10), 3);
        refuses("a fourth", x.map(0, 1, 50, 50, 1));
        start("fork 0; user 1;");
        Check.due("99 of them", x.map(0, 1, 0, 1, 99), 1);
        start("fork 0; become 1 4; user 1;");
        Check.due("the owner in it", x.map(1, 1, 77, 4, 1), 1);
        start("fork 0; user 1; fork 1; become 0 3;");
        refuses("without power, not the owner", x.map(0, 1, 0, 3, 1));
        Check.due("the owner's ID in its parent", x.map(2, 1, 0, 0, 1), 1);
    }

    private static void mapsInTwoDepths() {
        start("fork 0; user 1; map 0 1 10 20 5; fork 0; map 0 1 50 0 1; user 1;");
        refuses("outside isn't someone", x.map(0, 2, 0, 0, 1));
        refuses("the last outside isn't", x.map(0, 2, 0, 10, 6));
        refuses("the first outside isn't", x.map(0, 2, 0, 9, 5));
        Check.due("all are", x.map(0, 2, 0, 10, 5), 1);
        refuses("the owner's ID is another in the parent", x.map(1, 2, 6, 11, 1));
        refuses("the owner's ID as the root tells", x.map(1, 2, 6, 0, 1));
        Check.due("the owner's ID as the parent tells", x.map(1, 2, 6, 50, 1), 2);
        start("fork 0; become 1 3; user 1; user 1;");
        refuses("an owner that is nobody in the parent", x.map(1, 2, 0, 3, 1));
        start("fork 0; user 1; map 0 1 0 0 10; fork 1; user 2;");
        Check.due("power over the parent by being in it", x.map(1, 2, 0, 0, 10), 1);
        start("fork 0; become 1 3; fork 1; user 2; map 0 1 0 0 10; fork 2; user 2;");
        Check.due("power over the parent by owning it", x.map(1, 2, 0, 0, 10), 1);
        refuses("in it, without power over the parent", x.map(2, 2, 50, 10, 1));
    }

    private static void becomes() {
        start("fork 0; user 1; map 0 1 0 20 5; map 0 1 9 0 1;");
        refuses("nobody at the root", x.become(1, 5));
        refuses("-1", x.become(1, -1));
        refuses("100", x.become(0, 100));
        refuses("no such process", x.become(2, 0));
        Check.due("0 of its space", x.become(1, 0), 20);
        Check.due("keeps power", x.process(1, 8), 1);
        Check.due("ID at the root", x.process(1, 6), 20);
        Check.due("the same again", x.become(1, 0), 20);
        Check.due("the root's 0, another there", x.become(1, 9), 0);
        Check.due("loses power", x.process(1, 8), 0);
        refuses("without power", x.become(1, 0));
        Check.due("in the root", x.become(0, 99), 99);
        Check.due("loses power in the root", x.process(0, 8), 0);
        refuses("without power in the root", x.become(0, 99));
        Check.due("four", x.count(7), 4);
    }

    private static void mountsThings() {
        start("fork 0; user 1; mounts 1; fork 0; user 2; fork 0; become 3 6;");
        Check.due("mount", x.mount(1, 0, 99), 0);
        Check.due("another", x.mount(1, 0, 1), 99);
        Check.due("it is there", x.mounted(1, 0), 1);
        Check.due("not in the parent", x.mounted(0, 0), 0);
        refuses("the same", x.mount(1, 0, 1));
        Check.due("nothing", x.mount(1, 0, 0), 1);
        refuses("nothing again", x.mount(1, 0, 0));
        refuses("place -1", x.mount(1, -1, 1));
        refuses("place 8", x.mount(1, 8, 1));
        refuses("thing -1", x.mount(1, 0, -1));
        refuses("thing 100", x.mount(1, 0, 100));
        refuses("no such process", x.mount(4, 0, 1));
        refuses("in a user space in the keeper", x.mount(2, 0, 1));
        refuses("without power", x.mount(3, 0, 1));
        start("fork 0; become 1 6; fork 1; user 2; mounts 2; become 0 3; enter 1 2 user; fork 1;");
        Check.due("power in the keeper", x.mount(2, 7, 3), 0);
        start("fork 0; mounts 0; share 0; fork 0; mounts 2; mount 2 1 7; fork 2; mounts 3; share 2; fork 3; mounts 4;");
        Check.due("five", x.count(4), 5);
        Check.due("a mount spreads", x.mount(0, 1, 8), 0);
        int[] due = {0, 8, 8, 8, 7};
        for (int space = 0; space < 5; space++) {
            Check.due("spread to " + space, x.mounted(space, 1), due[space]);
        }
        x.mount(2, 1, 9);
        Check.due("not outward", x.mounted(1, 1), 8);
        refuses("the same in its own, not where it spreads to", x.mount(0, 1, 8));
    }

    private static void shares() {
        start("fork 0; user 1; fork 0; mounts 2; fork 0; become 3 6;");
        Check.due("share", x.share(2), 1);
        Check.due("the space is", x.space(2, 1, 5), 1);
        Check.due("its parent isn't", x.space(2, 0, 5), 0);
        Check.due("not any more", x.share(2), 0);
        Check.due("the space isn't", x.space(2, 1, 5), 0);
        refuses("in a user space in the keeper", x.share(1));
        refuses("without power", x.share(3));
        refuses("no such process", x.share(4));
        refuses("process -1", x.share(-1));
    }

    private static void entersUsers() {
        start("fork 0; become 1 7; fork 1; user 2; fork 2; become 3 0; user 3; numbers 0; fork 0; fork 1;");
        Check.due("the owner of it, without power", x.enter(1, 2, 1), 1);
        Check.due("in it", x.process(1, 2), 1);
        Check.due("with power", x.process(1, 8), 1);
        Check.due("its ID stays", x.process(1, 6), 7);
        refuses("it is in it", x.enter(1, 2, 1));
        refuses("oneself", x.enter(1, 1, 1));
        refuses("outward", x.enter(1, 0, 1));
        Check.due("further in", x.enter(1, 3, 1), 2);
        refuses("whom it doesn't see", x.enter(4, 2, 1));
        refuses("no such q", x.enter(0, 6, 1));
        refuses("q -1", x.enter(0, -1, 1));
        refuses("no such p", x.enter(6, 0, 1));
        refuses("kind 3", x.enter(0, 2, 3));
        refuses("kind -1", x.enter(0, 2, -1));
        Check.due("two in at once", x.enter(0, 3, 1), 2);
    }

    private static void entersNumbers() {
        start("fork 0; numbers 0; fork 0; fork 0; user 2; numbers 2; fork 2; fork 1;");
        Check.due("within", x.enter(1, 2, 0), 1);
        Check.due("its children's", x.process(1, 4), 1);
        Check.due("itself stays", x.process(1, 1), 0);
        refuses("it is that already", x.enter(1, 3, 0));
        refuses("oneself", x.enter(1, 1, 0));
        Check.due("further in", x.enter(1, 4, 0), 2);
        Check.due("a child there", x.fork(1), 6);
        Check.due("its number there", x.number(6, 2), 2);
        Check.due("its parent is further out", x.process(6, 0), 1);
        Check.due("back to its own", x.enter(1, 0, 0), 0);
        refuses("whom it doesn't see", x.enter(2, 0, 0));
        refuses("without power over the keeper", x.enter(2, 3, 0));
        x.become(5, 9);
        refuses("without power", x.enter(5, 2, 0));
        refuses("no such q", x.enter(1, 9, 0));
    }

    private static void entersMounts() {
        start("fork 0; mounts 1; fork 0; user 2; mounts 2; fork 0; become 3 9; fork 3; user 4; mounts 4;");
        Check.due("inward", x.enter(0, 2, 2), 2);
        Check.due("in it", x.process(0, 3), 2);
        refuses("it is in it", x.enter(0, 2, 2));
        Check.due("to another", x.enter(0, 1, 2), 1);
        refuses("oneself", x.enter(0, 0, 2));
        refuses("without power over the keeper", x.enter(2, 1, 2));
        refuses("power over the keeper, but no power", x.enter(3, 4, 2));
        Check.due("with power", x.enter(3, 4, 1), 2);
        Check.due("then it is", x.enter(3, 4, 2), 3);
        start("numbers 0; fork 0; mounts 0;");
        refuses("whom it doesn't see", x.enter(1, 0, 2));
    }

    private static void ends() {
        start("fork 0; fork 1; fork 0;");
        refuses("process 0", x.end(0));
        refuses("no such process", x.end(4));
        refuses("process -1", x.end(-1));
        Check.due("end", x.end(1), 2);
        Check.due("who is left", x.count(0), 13);
        Check.due("the orphan's parent", x.process(2, 0), 0);
        refuses("it has ended", x.end(1));
        Check.due("power goes with it", x.count(6), 13);
        Check.due("its number is nobody's", x.listed(0, -1), 3);
    }

    private static void endsOfInits() {
        start("fork 0; numbers 1; fork 1; fork 2; numbers 3; fork 3; fork 4; fork 1; fork 0;");
        Check.due("seven", x.count(0), 255);
        Check.due("an init's end ends all in and within", x.end(2), 124);
        Check.due("who is left", x.count(0), 131);
        Check.due("dead", x.count(5), 6);
        refuses("no child in it any more", x.fork(1));
        x.undo();
        Check.due("an init further in", x.end(4), 48);
        Check.due("dead", x.count(5), 4);
        Check.due("its sister is an orphan no more", x.process(3, 0), 2);
        // A space whose maker ended ahead of its first process has had no init.
        start("fork 0; numbers 1; fork 1; numbers 2; end 2;");
        Check.due("dead is the one whose init has ended", x.count(5), 2);
        // The number of the init's process is used again, in another space: that is no init.
        start("fork 0; numbers 1; fork 1; end 2; fork 0;");
        Check.due("not an init", x.process(2, 9), 0);
        Check.due("the dead one's init", x.space(0, 1, 4), -1);
    }

    private static void orphans() {
        start("fork 0; numbers 1; fork 1; fork 2; fork 3; numbers 3; fork 3; enter 1 2 numbers; fork 1;");
        Check.due("parent", x.process(4, 0), 3);
        Check.due("end in space 1", x.end(3), 8);
        Check.due("the init of its parent's space", x.process(4, 0), 2);
        Check.due("the init of its parent's space, though an init itself", x.process(5, 0), 2);
        Check.due("end in the root", x.end(1), 2);
        Check.due("a child in space 1 of one in the root", x.process(2, 0), 0);
        start("fork 0; fork 1; fork 2; fork 3; fork 0; end 5;");
        Check.due("not an orphan", x.process(4, 0), 3);
        x.end(2);
        Check.due("an orphan", x.process(3, 0), 0);
        Check.due("its child has it still", x.process(4, 0), 3);
        start("fork 0; numbers 1; fork 1; fork 2; fork 3; numbers 3; fork 3; enter 1 2 numbers; fork 1; end 3; end 1;");
        Check.due("another one", x.process(4, 0), 2);
    }

    private static void kills() {
        start("fork 0; fork 0; become 1 5; fork 1; numbers 0; fork 0; fork 4; become 2 5;");
        refuses("process 0", x.kill(4, 0));
        refuses("process 0 by itself", x.kill(0, 0));
        refuses("without its ID or power over it", x.kill(1, 4));
        refuses("the init of its own space", x.kill(5, 4));
        refuses("whom it doesn't see", x.kill(4, 1));
        refuses("an init by itself", x.kill(4, 4));
        refuses("no such q", x.kill(0, 6));
        refuses("q -1", x.kill(0, -1));
        refuses("no such p", x.kill(6, 1));
        Check.due("its ID", x.kill(1, 2), 4);
        Check.due("oneself", x.kill(3, 3), 8);
        Check.due("an init from outside", x.kill(0, 4), 48);
        Check.due("power over its space", x.kill(0, 1), 2);
        Check.due("none but 0", x.count(0), 1);
    }

    private static void undoes() {
        start("fork 0;");
        Check.due("nothing to undo", x.undo(), -1);
        Check.due("that isn't an act that was refused", x.count(11), 0);
        x.fork(0);
        x.create(1, 1);
        refuses("a refused one", x.fork(9));
        Check.due("the refused one is none", x.undo(), 1);
        Check.due("no user space", x.count(3), 1);
        Check.due("STATUS stays", x.count(11), 1);
        Check.due("the fork", x.undo(), 0);
        Check.due("who is left", x.count(0), 3);
        Check.due("none left", x.undo(), -1);
        x.fork(0);
        Check.due("the number given last is undone, too", x.number(2, 0), 3);
    }

    private static void keepsForty() {
        start("");
        for (int i = 1; i <= 45; i++) {
            Check.due("mount", x.mount(0, 0, i), i - 1);
            Check.due("kept", x.count(7), Math.min(i, 40));
        }
        refuses("one more", x.mount(0, 0, 45));
        for (int i = 39; i >= 0; i--) {
            Check.due("undo", x.undo(), i);
            Check.due("as ahead of it", x.mounted(0, 0), i + 5);
        }
        Check.due("none", x.undo(), -1);
        Check.due("it stays", x.mounted(0, 0), 5);
        for (int i = 6; i <= 20; i++) {
            x.mount(0, 0, i);
        }
        Check.due("kept again", x.count(7), 15);
        Check.due("undone", x.undo(), 14);
        Check.due("as it was", x.mounted(0, 0), 19);
    }

    private static void undoesAll() {
        start("fork 0; user 1; fork 1; mount 0 1 1; numbers 0; fork 0;");
        String before = everything(x);
        x.fork(0);
        x.create(1, 1);
        x.create(1, 0);
        x.create(1, 2);
        x.map(0, 1, 0, 0, 9);
        x.map(0, 1, 50, 50, 9);
        x.become(0, 0);
        x.mount(0, 1, 7);
        x.share(0);
        x.enter(0, 2, 0);
        x.enter(0, 2, 1);
        x.enter(0, 1, 2);
        x.kill(0, 2);
        x.end(3);
        Check.due("acts", x.count(7), 14);
        for (int i = 13; i >= 0; i--) {
            Check.due("undo", x.undo(), i);
        }
        Check.yes("all as before", everything(x).equals(before));
    }

    private static String everything(SpaceWarden y) {
        StringBuilder all = new StringBuilder();
        for (int what = 0; what < 7; what++) {
            all.append(y.count(what)).append(' ');
        }
        for (int p = 0; p < 16; p++) {
            for (int what = 0; what < 10 && (y.count(0) >> p & 1) == 1; what++) {
                all.append(y.process(p, what)).append(' ');
            }
        }
        for (int kind = 0; kind < 3; kind++) {
            for (int space = 0; space < y.count(2 + kind); space++) {
                for (int what = 0; what < 7; what++) {
                    all.append(y.space(kind, space, what)).append(' ');
                }
            }
        }
        for (int place = 0; place < 8; place++) {
            all.append(y.mounted(0, place)).append(' ');
        }
        return all.toString();
    }
}
