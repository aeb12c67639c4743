import java.util.function.ToIntFunction;

/** Boundary cases of promises 22 to 25: enter, end, kill, undo. */
public final class EdgesOfEndsTest {
    private static final int LEAST = Integer.MIN_VALUE;
    private static final int GREATEST = Integer.MAX_VALUE;
    private static final int[] NO_PROCESS = {-1, 1, 3, 15, 16, 32, LEAST, GREATEST};
    private static final String HOLE = "fork 0; fork 0; end 1;";
    /** Number spaces 1 to 4, each in the one ahead; process i is the init of space i. */
    private static final String FOUR_DEEP = "numbers 0; fork 0; numbers 1; fork 1; numbers 2; fork 2; numbers 3; fork 3;";
    /** 1 (ID 7, no power) owns user space 1, in which 2 is with power, and mount space 1. */
    private static final String OWNED = "fork 0; become 1 7; fork 1; user 2; mounts 2;";

    public static void main(String[] args) {
        Edges.run(EdgesOfEndsTest.class, 22, 25);
    }

    // Promise 22: enter.

    static void promise22_tooSmallTooLarge_kind() {
        for (int kind : new int[] {-1, 3, LEAST, GREATEST}) {
            Edges.refuses("fork 0; numbers 1; user 1; mounts 1;", x -> x.enter(0, 1, kind));
        }
    }

    static void promise22_tooSmallTooLarge_p() {
        for (int kind = 0; kind < 3; kind++) {
            int of = kind;
            for (int p : NO_PROCESS) {
                Edges.refuses(HOLE + "user 2; mounts 2;", x -> x.enter(p, 2, of));
            }
        }
    }

    static void promise22_tooSmallTooLarge_q() {
        for (int kind = 0; kind < 3; kind++) {
            int of = kind;
            for (int q : NO_PROCESS) {
                Edges.refuses(HOLE + "user 2; mounts 2;", x -> x.enter(0, q, of));
            }
        }
    }

    static void promise22_oneself_no() {
        Edges.refuses("user 0;", x -> x.enter(0, 0, 1));
        Edges.refuses("numbers 0;", x -> x.enter(0, 0, 0));
        Edges.refuses("mounts 0;", x -> x.enter(0, 0, 2));
    }

    static void promise22_unseen_user() {
        Edges.refuses("fork 0; numbers 0; fork 0; user 1;", x -> x.enter(2, 1, 1));
    }

    static void promise22_unseen_numbers() {
        Edges.refuses("fork 0; numbers 0; fork 0; numbers 2;", x -> x.enter(2, 1, 0));
        Edges.refuses("fork 0; numbers 0; numbers 1; fork 0; fork 1;", x -> x.enter(2, 3, 0));
    }

    static void promise22_unseen_mounts() {
        Edges.refuses("numbers 0; fork 0; mounts 0;", x -> x.enter(1, 0, 2));
    }

    static void promise22_user_isInItAlready() {
        Edges.refuses("fork 0;", x -> x.enter(0, 1, 1));
        Edges.refuses("user 0; fork 0;", x -> x.enter(0, 1, 1));
    }

    static void promise22_user_notOutward() {
        Edges.refuses("fork 0; user 1;", x -> x.enter(1, 0, 1));
    }

    static void promise22_user_notBeside() {
        Edges.refuses("fork 0; user 1; user 0;", x -> x.enter(0, 1, 1));
    }

    static void promise22_user_notWithoutPowerOverIt() {
        Edges.refuses("fork 0; user 1; become 0 5;", x -> x.enter(0, 1, 1));
    }

    static void promise22_user_byOwningItWithPowerThen() {
        SpaceWarden x = Edges.does(OWNED, y -> y.enter(1, 2, 1), 1);
        Check.due("in it", x.process(1, 2), 1);
        Check.due("with power", x.process(1, 8), 1);
        Check.due("ID stays", x.process(1, 6), 7);
        Check.due("mount space stays", x.process(1, 3), 0);
    }

    static void promise22_user_fourDeepAtOnce() {
        SpaceWarden x = Edges.does("fork 0; user 1; user 1; user 1; user 1;", y -> y.enter(0, 1, 1), 4);
        Check.due("in it", x.process(0, 2), 4);
    }

    static void promise22_numbers_isItsChildrensAlready() {
        Edges.refuses("numbers 0; fork 0;", x -> x.enter(0, 1, 0));
        Edges.refuses("fork 0;", x -> x.enter(0, 1, 0));
    }

    static void promise22_numbers_within() {
        SpaceWarden x = Edges.does("fork 0; numbers 0; fork 0;", y -> y.enter(1, 2, 0), 1);
        Check.due("children's", x.process(1, 4), 1);
        Check.due("itself stays", x.process(1, 1), 0);
    }

    static void promise22_numbers_fourDeepAtOnce() {
        SpaceWarden x = Edges.does(FOUR_DEEP, y -> y.enter(0, 4, 0), 4);
        Check.due("children's", x.process(0, 4), 4);
    }

    static void promise22_numbers_backToItsOwn() {
        SpaceWarden x = Edges.does("fork 0; numbers 0;", y -> y.enter(0, 1, 0), 0);
        Check.due("children's", x.process(0, 4), 0);
    }

    static void promise22_numbers_notWithoutPowerOverTheKeeper() {
        Edges.refuses("fork 0; numbers 0; fork 0; become 1 5;", x -> x.enter(1, 2, 0));
        Edges.refuses("fork 0; numbers 0; fork 0; user 1;", x -> x.enter(1, 2, 0));
    }

    static void promise22_numbers_byOwningTheKeeperWithoutPower() {
        Edges.does("fork 0; become 1 7; fork 1; user 2; numbers 2; fork 2;", x -> x.enter(1, 3, 0), 1);
    }

    static void promise22_numbers_byTheKeeperNotByQsUserSpace() {
        // 2 has power over the keeper 1, not over 4's user space 0.
        Edges.does("fork 0; user 1; fork 1; numbers 1; fork 1; enter 0 3 numbers; fork 0;", x -> x.enter(2, 4, 0), 1);
        // 2 has power over 3's user space 1, not over the keeper 0.
        Edges.refuses("fork 0; fork 1; numbers 1; user 1; fork 1; enter 2 1 user;", x -> x.enter(2, 3, 0));
    }

    static void promise22_mounts_isInItAlready() {
        Edges.refuses("fork 0;", x -> x.enter(0, 1, 2));
        Edges.refuses("mounts 0; fork 0;", x -> x.enter(0, 1, 2));
    }

    static void promise22_mounts_notWithoutPowerThoughOverTheKeeper() {
        Edges.refuses(OWNED, x -> x.enter(1, 2, 2));
    }

    static void promise22_mounts_notWithPowerButNotOverTheKeeper() {
        Edges.refuses(OWNED, x -> x.enter(2, 0, 2));
        Edges.refuses("fork 0; mounts 1; fork 0; user 2;", x -> x.enter(2, 1, 2));
    }

    static void promise22_mounts_withBoth() {
        SpaceWarden x = Edges.does(OWNED, y -> y.enter(0, 2, 2), 1);
        Check.due("in it", x.process(0, 3), 1);
        Check.due("user space stays", x.process(0, 2), 0);
    }

    static void promise22_mounts_outwardIfTheKeeperIsInItsPower() {
        SpaceWarden x = Edges.does("fork 0; mounts 1; mounts 1;", y -> y.enter(1, 0, 2), 0);
        Check.due("in it", x.process(1, 3), 0);
    }

    // Promise 23: end.

    static void promise23_zero_no() {
        Edges.refuses(HOLE, x -> x.end(0));
        Edges.refuses("", x -> x.end(0));
    }

    static void promise23_tooSmallTooLarge_p() {
        for (int p : NO_PROCESS) {
            Edges.refuses(HOLE, x -> x.end(p));
        }
    }

    static void promise23_ended_notAgain() {
        SpaceWarden x = Edges.does("fork 0;", y -> y.end(1), 2);
        Check.due("again", x.end(1), Edges.NONE);
        Check.due("STATUS 1", x.count(11), 1);
    }

    static void promise23_last_processOf15() {
        Edges.does("fork 0;".repeat(15), x -> x.end(15), 1 << 15);
    }

    static void promise23_init_endsAllFifteen() {
        SpaceWarden x = Edges.does("numbers 0;" + "fork 0;".repeat(15), y -> y.end(1), 65534);
        Check.due("0 is left", x.count(0), 1);
        Check.due("dead", x.count(5), 2);
    }

    static void promise23_init_notThoseOutside() {
        SpaceWarden x = Edges.does("fork 0; numbers 1; fork 1; fork 2; fork 0;", y -> y.end(2), 12);
        Check.due("who is left", x.count(0), 19);
        Check.due("its maker has the children's space still", x.process(1, 4), 1);
    }

    static void promise23_init_thoseInSpacesWithinToo() {
        Edges.does(FOUR_DEEP, x -> x.end(1), 30);
        Edges.does(FOUR_DEEP, x -> x.end(3), 24);
        Edges.does(FOUR_DEEP, x -> x.end(4), 16);
    }

    static void promise23_init_thoseInASpaceBesideDoNot() {
        Edges.does("fork 0; numbers 0; numbers 1; fork 0; fork 1;", x -> x.end(2), 4);
    }

    static void promise23_init_childrenFromOutsideToo() {
        // 3 is in space 1, though its parent 1 is outside.
        Edges.does("fork 0; numbers 0; fork 0; enter 1 2 numbers; fork 1;", x -> x.end(2), 12);
    }

    static void promise23_notInit_endsAlone() {
        SpaceWarden x = Edges.does("numbers 0; fork 0; fork 1; fork 2;", y -> y.end(2), 4);
        Check.due("not dead", x.count(5), 0);
        Check.due("its child is left", x.count(0), 11);
    }

    static void promise23_notInit_makerOfASpaceDoesNotEndIt() {
        SpaceWarden x = Edges.does("fork 0; numbers 1; fork 1;", y -> y.end(1), 2);
        Check.due("not dead", x.count(5), 0);
        Check.due("who is left", x.count(0), 5);
    }

    static void promise23_orphan_findsTheInitOfItsParentsSpace() {
        SpaceWarden x = Edges.does("numbers 0; fork 0; fork 1; fork 2;", y -> y.end(2), 4);
        Check.due("the orphan", x.process(3, 0), 1);
    }

    static void promise23_orphan_notTheInitOfItsOwnSpace() {
        // 3 is the init of space 2, 4 in it; their parent 2 is in space 1, of which 1 is the init.
        SpaceWarden x = Edges.does("numbers 0; fork 0; fork 1; numbers 2; fork 2; fork 2;", y -> y.end(2), 4);
        Check.due("the init of a space within", x.process(3, 0), 1);
        Check.due("another in that", x.process(4, 0), 1);
    }

    static void promise23_orphan_inTheRootHasProcess0() {
        SpaceWarden x = Edges.does("fork 0; fork 1; numbers 2; fork 2;", y -> y.end(2), 4);
        Check.due("the orphan", x.process(3, 0), 0);
    }

    static void promise23_orphan_notOthersChildren() {
        SpaceWarden x = Edges.does("fork 0; fork 1; fork 2; fork 3;", y -> y.end(1), 2);
        Check.due("its child", x.process(2, 0), 0);
        Check.due("its child's child", x.process(3, 0), 2);
        Check.due("and on", x.process(4, 0), 3);
    }

    static void promise23_ended_numberIsNobodys() {
        SpaceWarden x = Edges.does("fork 0; fork 0;", y -> y.end(1), 2);
        Check.due("how many", x.listed(0, -1), 2);
        Check.due("the second", x.listed(0, 1), 2);
    }

    // Promise 24: kill.

    static void promise24_tooSmallTooLarge_p() {
        for (int p : NO_PROCESS) {
            Edges.refuses(HOLE, x -> x.kill(p, 2));
        }
    }

    static void promise24_tooSmallTooLarge_q() {
        for (int q : NO_PROCESS) {
            Edges.refuses(HOLE, x -> x.kill(0, q));
        }
    }

    static void promise24_zero_no() {
        Edges.refuses("fork 0;", x -> x.kill(0, 0));
        Edges.refuses("fork 0;", x -> x.kill(1, 0));
    }

    static void promise24_init_notOfItsOwnSpace() {
        Edges.refuses("numbers 0; fork 0; fork 0;", x -> x.kill(2, 1));
        Edges.refuses("numbers 0; fork 0; fork 0;", x -> x.kill(1, 1));
    }

    static void promise24_init_ofASpaceWithinEndsAllInIt() {
        Edges.does(FOUR_DEEP, x -> x.kill(0, 1), 30);
        Edges.does(FOUR_DEEP, x -> x.kill(1, 2), 28);
    }

    static void promise24_unseen_no() {
        Edges.refuses("fork 0; numbers 0; fork 0;", x -> x.kill(2, 1));
    }

    static void promise24_id_withoutPower() {
        Edges.does("fork 0; fork 0; become 1 5; become 2 5;", x -> x.kill(1, 2), 4);
        Edges.refuses("fork 0; fork 0; become 1 5; become 2 6;", x -> x.kill(1, 2));
    }

    static void promise24_id_isTheRootsNotWhatItsSpaceTells() {
        // 1 is 30, and 0 of user space 1; 2 is 31, and 0 of user space 2.
        String both = "fork 0; fork 0; user 1; user 2; map 0 1 0 30 1; map 0 2 0 31 1; become 1 0; become 2 0;";
        Edges.refuses(both, x -> x.kill(1, 2));
    }

    static void promise24_id_outwardInAnotherUserSpace() {
        Edges.does("fork 0; fork 0; user 1;", x -> x.kill(1, 2), 4);
    }

    static void promise24_power_overQsUserSpace() {
        Edges.does("fork 0; fork 0; become 2 6;", x -> x.kill(1, 2), 4);
        Edges.does(OWNED + "map 0 1 0 7 1; map 0 1 1 50 1; become 2 1;", x -> x.kill(1, 2), 4);
        Edges.refuses("fork 0; fork 0; become 2 6; become 1 5;", x -> x.kill(2, 1));
    }

    /** Words: nothing says that it can't be oneself. */
    static void promise24_oneself_yes() {
        Edges.does("fork 0; become 1 5;", x -> x.kill(1, 1), 2);
    }

    static void promise24_last_processOf15() {
        Edges.does("fork 0;".repeat(15), x -> x.kill(0, 15), 1 << 15);
    }

    // Promise 25: undo.

    static void promise25_empty_none() {
        SpaceWarden x = new SpaceWarden();
        Check.due("undo", x.undo(), Edges.NONE);
        Check.due("STATUS 1", x.count(11), 0);
    }

    static void promise25_empty_noneBehindTheLast() {
        SpaceWarden x = new SpaceWarden();
        x.fork(0);
        Check.due("undo", x.undo(), 0);
        Check.due("none left", x.undo(), Edges.NONE);
        Check.due("again", x.undo(), Edges.NONE);
        Check.due("as at first", x.count(0), 1);
    }

    static void promise25_full_fortyAreKept() {
        SpaceWarden x = new SpaceWarden();
        for (int i = 1; i <= 40; i++) {
            x.mount(0, 0, i);
        }
        for (int i = 39; i >= 0; i--) {
            Check.due("undo", x.undo(), i);
            Check.due("as ahead of it", x.mounted(0, 0), i);
        }
        Check.due("none left", x.undo(), Edges.NONE);
    }

    static void promise25_full_ofFortyOneTheFirstIsGone() {
        SpaceWarden x = new SpaceWarden();
        for (int i = 1; i <= 41; i++) {
            x.mount(0, 0, i);
        }
        for (int i = 39; i >= 0; i--) {
            Check.due("undo", x.undo(), i);
            Check.due("as ahead of it", x.mounted(0, 0), i + 1);
        }
        Check.due("none left", x.undo(), Edges.NONE);
        Check.due("the first stays", x.mounted(0, 0), 1);
    }

    static void promise25_full_refusedActsPushNoneOut() {
        SpaceWarden x = new SpaceWarden();
        for (int i = 1; i <= 40; i++) {
            x.mount(0, 0, i);
        }
        for (int i = 0; i < 5; i++) {
            x.mount(0, 0, 40);
        }
        Check.due("kept", x.count(7), 40);
        for (int i = 39; i >= 0; i--) {
            Check.due("undo", x.undo(), i);
            Check.due("as ahead of it", x.mounted(0, 0), i);
        }
    }

    static void promise25_full_moreActsBehindUndos() {
        SpaceWarden x = new SpaceWarden();
        for (int i = 1; i <= 60; i++) {
            x.mount(0, 0, i);
        }
        for (int i = 0; i < 10; i++) {
            x.undo();
        }
        Check.due("kept", x.count(7), 30);
        for (int i = 61; i <= 75; i++) {
            x.mount(0, 0, i);
        }
        Check.due("kept again", x.count(7), 40);
        for (int i = 74; i >= 61; i--) {
            x.undo();
            Check.due("as ahead of it", x.mounted(0, 0), i);
        }
        x.undo();
        Check.due("as ahead of the first behind the undos", x.mounted(0, 0), 50);
        for (int i = 49; i >= 25; i--) {
            x.undo();
            Check.due("as ahead of it", x.mounted(0, 0), i);
        }
        Check.due("none left", x.undo(), Edges.NONE);
    }

    static void promise25_refused_isNothingToUndo() {
        SpaceWarden x = new SpaceWarden();
        x.fork(0);
        x.fork(9);
        x.end(0);
        Check.due("undo", x.undo(), 0);
        Check.due("the fork is undone", x.count(0), 1);
    }

    static void promise25_stays_status() {
        SpaceWarden x = new SpaceWarden();
        Check.tell(x, "no;");
        x.fork(0);
        x.fork(9);
        x.note(9, 1, true);
        x.undo();
        for (int what = 10; what <= 12; what++) {
            Check.due("count " + what, x.count(what), 1);
        }
    }

    static void promise25_stays_noted() {
        SpaceWarden x = new SpaceWarden();
        x.fork(0);
        x.note(0, 1, true);
        x.undo();
        Check.due("noted", x.count(8), 1);
    }

    static void promise25_stays_tapeFaultAndImage() {
        SpaceWarden x = new SpaceWarden();
        Check.tell(x, " no;");
        x.fork(0);
        x.image();
        x.feed(0, 0, 0, 0, 0);
        x.undo();
        Check.due("tape", x.count(9), 20);
        Check.due("fault", x.fault(), 1);
        Check.yes("restore", x.restore());
        Check.due("as the image", x.count(0), 3);
    }

    static void promise25_last_theLastOneFirst() {
        SpaceWarden x = new SpaceWarden();
        x.mount(0, 0, 1);
        x.mount(0, 1, 2);
        Check.due("undo", x.undo(), 1);
        Check.due("the last", x.mounted(0, 1), 0);
        Check.due("the first", x.mounted(0, 0), 1);
    }

    static void promise25_fork_theNumberGivenLastIsUndoneToo() {
        SpaceWarden x = new SpaceWarden();
        x.fork(0);
        x.undo();
        x.fork(0);
        Check.due("number", x.number(1, 0), 2);
    }

    private static void isUndone(String text, ToIntFunction<SpaceWarden> act) {
        SpaceWarden x = Check.told(text);
        String before = Edges.state(x);
        Check.yes("it can be", act.applyAsInt(x) != Edges.NONE);
        Check.due("undo", x.undo(), 0);
        Edges.same("as ahead of it", before, Edges.state(x));
    }

    static void promise25_fork_isUndone() {
        isUndone("fork 0;", x -> x.fork(1));
    }

    static void promise25_fork_ofAnInitIsUndone() {
        SpaceWarden x = Check.told("numbers 0;");
        x.fork(0);
        x.undo();
        Check.due("no init", x.space(0, 1, 4), Edges.NONE);
        x.fork(0);
        Check.due("the init again", x.number(1, 1), 1);
    }

    static void promise25_create_isUndone() {
        for (int kind = 0; kind < 3; kind++) {
            int of = kind;
            isUndone("mount 0 0 9;", x -> x.create(0, of));
        }
    }

    static void promise25_create_powerByAUserSpaceIsUndone() {
        isUndone("become 0 5;", x -> x.create(0, 1));
    }

    static void promise25_create_ofTheEighthLeavesRoomAgain() {
        SpaceWarden x = Check.told("fork 0;".repeat(15) + "user 1;user 2;user 3;user 4;user 5;user 6;");
        Check.due("the eighth", x.create(7, 1), 7);
        Check.due("a ninth", x.create(8, 1), Edges.NONE);
        x.undo();
        Check.due("the eighth again", x.create(8, 1), 7);
    }

    static void promise25_create_newOneHasNothingOfTheOneUndone() {
        SpaceWarden x = Check.told("fork 0;");
        x.create(1, 1);
        x.map(0, 1, 0, 0, 9);
        x.create(1, 2);
        x.share(1);
        for (int i = 0; i < 4; i++) {
            x.undo();
        }
        x.create(0, 1);
        x.create(0, 2);
        Check.due("ranges", x.space(1, 1, 4), 0);
        Check.due("shared", x.space(2, 1, 5), 0);
    }

    static void promise25_map_isUndone() {
        isUndone("fork 0; user 1; map 0 1 50 50 5;", x -> x.map(0, 1, 0, 0, 9));
    }

    static void promise25_become_isUndone() {
        isUndone("", x -> x.become(0, 5));
    }

    static void promise25_mount_isUndoneWhereItSpreadsToo() {
        isUndone("share 0; fork 0; mounts 1; mount 1 0 7;", x -> x.mount(0, 0, 9));
    }

    static void promise25_share_isUndone() {
        isUndone("", x -> x.share(0));
        isUndone("share 0;", x -> x.share(0));
    }

    static void promise25_enter_isUndone() {
        isUndone("fork 0; become 1 7; fork 1; user 2; numbers 2; fork 2;", x -> x.enter(1, 2, 1));
        isUndone("fork 0; become 1 7; fork 1; user 2; numbers 2; fork 2;", x -> x.enter(1, 3, 0));
        isUndone("fork 0; mounts 1;", x -> x.enter(0, 1, 2));
    }

    static void promise25_end_isUndone() {
        isUndone("fork 0; numbers 1; fork 1; fork 2; numbers 3; fork 3;", x -> x.end(2));
        isUndone("fork 0; fork 1; fork 2;", x -> x.end(1));
    }

    static void promise25_end_theDeadSpaceLivesAgain() {
        SpaceWarden x = Check.told("numbers 0; fork 0;");
        x.end(1);
        Check.due("dead", x.count(5), 2);
        x.undo();
        Check.due("not dead", x.count(5), 0);
        Check.due("fork", x.fork(0), 2);
    }

    static void promise25_kill_isUndone() {
        isUndone("fork 0; fork 1; fork 2;", x -> x.kill(2, 1));
    }
}
