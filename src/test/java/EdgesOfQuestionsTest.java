/** Boundary cases of promises 5 to 15: what is asked of processes and spaces. */
public final class EdgesOfQuestionsTest {
    private static final int LEAST = Integer.MIN_VALUE;
    private static final int GREATEST = Integer.MAX_VALUE;
    private static final String SIXTEEN = "fork 0;".repeat(15);
    private static final String EIGHT_NUMBERSPACES = SIXTEEN
        + "numbers 1;numbers 2;numbers 3;numbers 4;numbers 5;numbers 6;numbers 7;";
    private static final String EIGHT_USERSPACES = SIXTEEN + "user 1;user 2;user 3;user 4;user 5;user 6;user 7;";
    private static final String EIGHT_MOUNTSPACES = SIXTEEN
        + "mounts 1;mounts 2;mounts 3;mounts 4;mounts 5;mounts 6;mounts 7;";
    /** Number spaces 1 to 4, each in the one ahead; process i is the init of space i. */
    private static final String FOUR_DEEP = "numbers 0; fork 0; numbers 1; fork 1; numbers 2; fork 2; numbers 3; fork 3;";
    /** User space 1: 10 to 14 are 20 to 24; 2 in it: 0 and 1 are its 12 and 13; 3 in that, without ranges. */
    private static final String RANGES = "fork 0; user 1; map 0 1 10 20 5; user 1; map 0 2 0 12 2; user 1;";

    public static void main(String[] args) {
        Edges.run(EdgesOfQuestionsTest.class, 5, 15);
    }

    // Promise 5: count.

    static void promise05_tooSmall_whatBelow0() {
        SpaceWarden x = new SpaceWarden();
        Check.noSuch("count -1", () -> x.count(-1));
        Check.noSuch("count of the least int", () -> x.count(LEAST));
    }

    static void promise05_tooLarge_whatOf13() {
        SpaceWarden x = new SpaceWarden();
        Check.noSuch("count 13", () -> x.count(13));
        Check.noSuch("count of the greatest int", () -> x.count(GREATEST));
    }

    static void promise05_last_whatOf12() {
        Check.due("count 12", new SpaceWarden().count(12), 0);
    }

    static void promise05_full_sixteenProcesses() {
        SpaceWarden x = Check.told(SIXTEEN);
        Check.due("bits", x.count(0), 65535);
        Check.due("how many", x.count(1), 16);
        Check.due("with power", x.count(6), 65535);
    }

    static void promise05_full_eightSpacesOfEachKind() {
        Check.due("number spaces", Check.told(EIGHT_NUMBERSPACES).count(2), 8);
        Check.due("user spaces", Check.told(EIGHT_USERSPACES).count(3), 8);
        Check.due("mount spaces", Check.told(EIGHT_MOUNTSPACES).count(4), 8);
    }

    static void promise05_empty_spaceWithoutInitYetIsNotDead() {
        Check.due("dead", Check.told("numbers 0;").count(5), 0);
    }

    static void promise05_dead_whenItsInitHasEnded() {
        Check.due("dead", Check.told("numbers 0; fork 0; end 1;").count(5), 2);
    }

    static void promise05_dead_notWhenAnotherHasEnded() {
        Check.due("dead", Check.told("numbers 0; fork 0; fork 0; end 2;").count(5), 0);
    }

    static void promise05_dead_spacesWithinToo() {
        Check.due("dead", Check.told(FOUR_DEEP + "end 2;").count(5), 28);
    }

    /** Words: dead is a space whose init has ended; one that never had an init isn't. */
    static void promise05_dead_notOneWithinThatNeverHadAnInit() {
        Check.due("dead", Check.told("numbers 0; fork 0; numbers 1; end 1;").count(5), 2);
    }

    static void promise05_full_allDeadButTheRoot() {
        Check.due("dead", Check.told(FOUR_DEEP + "end 1;").count(5), 30);
    }

    static void promise05_empty_noneWithPower() {
        Check.due("with power", Check.told("become 0 1;").count(6), 0);
    }

    static void promise05_ended_hasNoPowerAnyMore() {
        Check.due("with power", Check.told("fork 0; fork 0; end 1;").count(6), 5);
    }

    static void promise05_full_actsThatAreKept() {
        SpaceWarden x = new SpaceWarden();
        for (int i = 1; i <= 39; i++) {
            x.share(0);
        }
        Check.due("39", x.count(7), 39);
        x.share(0);
        Check.due("40", x.count(7), 40);
        x.share(0);
        Check.due("of 41", x.count(7), 40);
    }

    static void promise05_full_noted() {
        SpaceWarden x = new SpaceWarden();
        for (int i = 1; i <= 8; i++) {
            x.note(0, i, true);
        }
        Check.due("8", x.count(8), 8);
        x.note(0, 9, true);
        Check.due("of 9", x.count(8), 8);
    }

    static void promise05_full_bytesOfTheTape() {
        SpaceWarden x = new SpaceWarden();
        Check.tape(x, " ".repeat(900));
        Check.due("900", x.count(9), 900);
        x.feed(0, 0, 0, 0, 0);
        Check.due("of 920", x.count(9), 900);
        x.spaces(0);
        Check.due("empty", x.count(9), 0);
    }

    static void promise05_refused_eachStatusAlone() {
        SpaceWarden x = new SpaceWarden();
        Check.tell(x, "no;");
        int[] text = {1, 0, 0};
        status(x, text);
        x.fork(1);
        x.fork(1);
        int[] acts = {1, 2, 0};
        status(x, acts);
        x.note(1, 1, true);
        x.note(1, 1, true);
        x.note(1, 1, true);
        int[] notes = {1, 2, 3};
        status(x, notes);
    }

    static void promise05_refused_otherCallsAreNotCounted() {
        SpaceWarden x = new SpaceWarden();
        Check.noSuch("count", () -> x.count(13));
        Check.noSuch("process", () -> x.process(1, 0));
        Check.illegal("spaces", () -> x.spaces(1));
        Check.illegal("inside", () -> x.inside(0, 100));
        Check.illegal("years", () -> x.years(0, 61, 0));
        x.undo();
        x.restore();
        status(x, new int[] {0, 0, 0});
    }

    private static void status(SpaceWarden x, int[] due) {
        for (int i = 0; i < 3; i++) {
            Check.due("STATUS " + i, x.count(10 + i), due[i]);
        }
    }

    // Promise 6: process.

    static void promise06_tooSmall_processBelow0() {
        SpaceWarden x = Check.told(SIXTEEN);
        Check.noSuch("process -1", () -> x.process(-1, 0));
        Check.noSuch("process of the least int", () -> x.process(LEAST, 0));
    }

    static void promise06_tooLarge_processOf16() {
        SpaceWarden x = Check.told(SIXTEEN);
        Check.noSuch("process 16", () -> x.process(16, 0));
        Check.noSuch("process 32", () -> x.process(32, 0));
        Check.noSuch("process of the greatest int", () -> x.process(GREATEST, 0));
    }

    static void promise06_full_processOf15() {
        Check.due("number", Check.told(SIXTEEN).process(15, 5), 16);
    }

    static void promise06_empty_processThatThereIsNot() {
        SpaceWarden x = Check.told("fork 0;");
        Check.noSuch("process 2", () -> x.process(2, 0));
    }

    static void promise06_ended_processThatHasEnded() {
        SpaceWarden x = Check.told("fork 0; fork 0; end 1;");
        Check.noSuch("process 1", () -> x.process(1, 0));
        Check.due("process 2", x.process(2, 0), 0);
    }

    static void promise06_tooSmall_whatBelow0() {
        SpaceWarden x = new SpaceWarden();
        Check.noSuch("what -1", () -> x.process(0, -1));
        Check.noSuch("what of the least int", () -> x.process(0, LEAST));
    }

    static void promise06_tooLarge_whatOf10() {
        SpaceWarden x = new SpaceWarden();
        Check.noSuch("what 10", () -> x.process(0, 10));
        Check.noSuch("what of the greatest int", () -> x.process(0, GREATEST));
    }

    static void promise06_nobody_withoutRanges() {
        SpaceWarden x = Check.told("fork 0; user 1;");
        Check.due("ID there", x.process(1, 7), Edges.NOBODY);
        Check.due("ID at the root", x.process(1, 6), 0);
    }

    static void promise06_nobody_outOfARangeByOne() {
        Check.due("behind it", Check.told("fork 0; become 1 5; user 1; map 0 1 0 0 5;").process(1, 7), Edges.NOBODY);
        Check.due("its last", Check.told("fork 0; become 1 5; user 1; map 0 1 0 1 5;").process(1, 7), 4);
        Check.due("its first", Check.told("fork 0; become 1 5; user 1; map 0 1 0 5 5;").process(1, 7), 0);
        Check.due("ahead of it", Check.told("fork 0; become 1 5; user 1; map 0 1 0 6 5;").process(1, 7), Edges.NOBODY);
    }

    static void promise06_init_isTheFirstOfItsSpaceAlone() {
        SpaceWarden x = Check.told("numbers 0; fork 0; fork 0; fork 1;");
        Check.due("the first", x.process(1, 9), 1);
        Check.due("the second", x.process(2, 9), 0);
        Check.due("its child", x.process(3, 9), 0);
    }

    static void promise06_init_notByTheProcessNumberOfOneThatEnded() {
        SpaceWarden x = Check.told("fork 0; numbers 0; fork 0; end 2; fork 1;");
        Check.due("in the root", x.process(2, 1), 0);
        Check.due("no init", x.process(2, 9), 0);
    }

    // Promise 7: space.

    static void promise07_tooSmall_kindBelow0() {
        SpaceWarden x = new SpaceWarden();
        Check.noSuch("kind -1", () -> x.space(-1, 0, 0));
        Check.noSuch("kind of the least int", () -> x.space(LEAST, 0, 0));
    }

    static void promise07_tooLarge_kindOf3() {
        SpaceWarden x = new SpaceWarden();
        Check.noSuch("kind 3", () -> x.space(3, 0, 0));
        Check.noSuch("kind of the greatest int", () -> x.space(GREATEST, 0, 0));
    }

    static void promise07_tooSmall_spaceBelow0() {
        SpaceWarden x = new SpaceWarden();
        for (int kind = 0; kind < 3; kind++) {
            int of = kind;
            Check.noSuch("space -1", () -> x.space(of, -1, 0));
            Check.noSuch("space of the least int", () -> x.space(of, LEAST, 0));
        }
    }

    static void promise07_tooLarge_spaceThatThereIsNot() {
        SpaceWarden x = Check.told("user 0; numbers 0; mounts 0;");
        for (int kind = 0; kind < 3; kind++) {
            int of = kind;
            Check.due("space 1", x.space(kind, 1, 0), 0);
            Check.noSuch("space 2", () -> x.space(of, 2, 0));
            Check.noSuch("space of the greatest int", () -> x.space(of, GREATEST, 0));
        }
    }

    static void promise07_full_spaceOf7AndOf8() {
        String[] texts = {EIGHT_NUMBERSPACES, EIGHT_USERSPACES, EIGHT_MOUNTSPACES};
        for (int kind = 0; kind < 3; kind++) {
            int of = kind;
            SpaceWarden x = Check.told(texts[kind]);
            Check.due("space 7", x.space(kind, 7, 0), 0);
            Check.noSuch("space 8", () -> x.space(of, 8, 0));
        }
    }

    static void promise07_tooSmall_whatBelow0() {
        SpaceWarden x = new SpaceWarden();
        for (int kind = 0; kind < 3; kind++) {
            int of = kind;
            Check.noSuch("what -1", () -> x.space(of, 0, -1));
        }
    }

    static void promise07_tooLarge_whatOf7() {
        SpaceWarden x = new SpaceWarden();
        for (int kind = 0; kind < 3; kind++) {
            int of = kind;
            Check.noSuch("what 7", () -> x.space(of, 0, 7));
        }
    }

    static void promise07_none_parentOfARoot() {
        SpaceWarden x = Check.told("numbers 0; user 0; mounts 0;");
        for (int kind = 0; kind < 3; kind++) {
            Check.due("of the root", x.space(kind, 0, 0), Edges.NONE);
            Check.due("of another", x.space(kind, 1, 0), 0);
        }
    }

    static void promise07_full_fourDeep() {
        Check.due("numbers", Check.told(FOUR_DEEP).space(0, 4, 1), 4);
        Check.due("user", Check.told("user 0; user 0; user 0; user 0;").space(1, 4, 1), 4);
        Check.due("mounts", Check.told("mounts 0; mounts 0; mounts 0; mounts 0;").space(2, 4, 1), 4);
    }

    static void promise07_first_ownerOfUserSpace0() {
        Check.due("owner", Check.told("become 0 5;").space(1, 0, 2), 0);
    }

    static void promise07_owner_isAnIdOfTheRoot() {
        Check.due("nobody in its parent", Check.told("become 0 5; user 0; user 0;").space(1, 2, 2), 5);
        SpaceWarden x = Check.told("fork 0; become 1 5; user 1; map 0 1 40 5 1; user 1;");
        Check.due("another in its parent", x.space(1, 2, 2), 5);
    }

    static void promise07_keeper_isWhereItsMakerWasThen() {
        SpaceWarden x = Check.told("fork 0; user 1; numbers 1; mounts 1; user 1;");
        Check.due("of numbers", x.space(0, 1, 2), 1);
        Check.due("of mounts", x.space(2, 1, 2), 1);
    }

    static void promise07_empty_noneIsInIt() {
        SpaceWarden x = Check.told("numbers 0; user 0; user 0; mounts 0; mounts 0;");
        Check.due("numbers", x.space(0, 1, 3), 0);
        Check.due("user", x.space(1, 1, 3), 0);
        Check.due("mounts", x.space(2, 1, 3), 0);
    }

    static void promise07_stays_whenAllInItHaveEnded() {
        SpaceWarden x = Check.told("numbers 0; fork 0; user 1; mounts 1; end 1;");
        for (int kind = 0; kind < 3; kind++) {
            Check.due("it is there", x.count(2 + kind), 2);
            Check.due("none is in it", x.space(kind, 1, 3), 0);
        }
    }

    static void promise07_part_thoseWithinItDoNotCount() {
        SpaceWarden x = Check.told(FOUR_DEEP);
        Check.due("in the root", x.space(0, 0, 3), 1);
        Check.due("in space 2", x.space(0, 2, 3), 1);
        SpaceWarden y = Check.told("fork 0; user 1; mounts 1;");
        Check.due("in user space 0", y.space(1, 0, 3), 1);
        Check.due("in mount space 0", y.space(2, 0, 3), 1);
    }

    static void promise07_part_ofEachKindByItself() {
        SpaceWarden x = Check.told("fork 0; fork 0; user 1; mounts 2; fork 2; numbers 0; fork 0; fork 0; fork 0;");
        Check.due("number space 1", x.space(0, 1, 3), 3);
        Check.due("user space 1", x.space(1, 1, 3), 1);
        Check.due("mount space 1", x.space(2, 1, 3), 2);
    }

    static void promise07_full_sixteenInIt() {
        SpaceWarden x = Check.told(SIXTEEN);
        for (int kind = 0; kind < 3; kind++) {
            Check.due("kind " + kind, x.space(kind, 0, 3), 16);
        }
    }

    static void promise07_none_noInitYet() {
        Check.due("init", Check.told("numbers 0;").space(0, 1, 4), Edges.NONE);
    }

    static void promise07_none_initHasEnded() {
        Check.due("init", Check.told("numbers 0; fork 0; end 1;").space(0, 1, 4), Edges.NONE);
    }

    static void promise07_none_initHasEndedByAnother() {
        Check.due("init", Check.told(FOUR_DEEP + "end 1;").space(0, 4, 4), Edges.NONE);
    }

    static void promise07_empty_noRanges() {
        Check.due("ranges", Check.told("user 0;").space(1, 1, 4), 0);
        Check.due("ranges of the root", new SpaceWarden().space(1, 0, 4), 0);
    }

    static void promise07_full_threeRanges() {
        Check.due("ranges", Check.told("fork 0; user 1; map 0 1 0 0 1; map 0 1 1 1 1; map 0 1 2 2 1; map 0 1 3 3 1;")
            .space(1, 1, 4), 3);
    }

    static void promise07_full_eightPlaces() {
        StringBuilder text = new StringBuilder();
        for (int place = 0; place < 8; place++) {
            text.append("mount 0 ").append(place).append(" 9;");
        }
        Check.due("places", Check.told(text.toString()).space(2, 0, 4), 8);
    }

    static void promise07_empty_placeThatHasNothingAgain() {
        Check.due("places", Check.told("mount 0 0 9; mount 0 7 9; mount 0 0 0;").space(2, 0, 4), 1);
    }

    static void promise07_zero_sharedAndSpreadsOfOthers() {
        SpaceWarden x = Check.told("share 0;");
        for (int kind = 0; kind < 2; kind++) {
            Check.due("5 of kind " + kind, x.space(kind, 0, 5), 0);
            Check.due("6 of kind " + kind, x.space(kind, 0, 6), 0);
        }
    }

    static void promise07_shared_orNotAnyMore() {
        Check.due("shared", Check.told("share 0;").space(2, 0, 5), 1);
        Check.due("not any more", Check.told("share 0; share 0;").space(2, 0, 5), 0);
    }

    static void promise07_spreads_toItselfAlone() {
        Check.due("not shared", Check.told("fork 0; mounts 1;").space(2, 0, 6), 1);
        Check.due("shared, of none the parent", Check.told("share 0;").space(2, 0, 6), 1);
    }

    static void promise07_spreads_notOutward() {
        Check.due("spreads", Check.told("share 0; fork 0; mounts 1; share 1;").space(2, 1, 6), 2);
    }

    static void promise07_spreads_onFromSharedOnesAlone() {
        String chain = "fork 0; mounts 1; fork 1; mounts 2; share 0;";
        Check.due("not on from one that isn't", Check.told(chain).space(2, 0, 6), 3);
        Check.due("on from one that is", Check.told(chain + "share 1;").space(2, 0, 6), 7);
        Check.due("not over one that isn't", Check.told(chain + "share 2;").space(2, 0, 6), 3);
    }

    static void promise07_full_spreadsToAllEight() {
        Check.due("spreads", Check.told(EIGHT_MOUNTSPACES + "share 0;").space(2, 0, 6), 255);
    }

    static void promise07_full_spreadsFourDeep() {
        Check.due("spreads", Check.told("share 0; mounts 0; share 0; mounts 0; share 0; mounts 0; share 0; mounts 0;")
            .space(2, 0, 6), 31);
    }

    // Promise 8: number.

    static void promise08_none_inASpaceThatItIsNotIn() {
        SpaceWarden x = Check.told("fork 0; numbers 0; fork 0; numbers 2; fork 2;");
        Check.due("one outside", x.number(1, 1), Edges.NONE);
        Check.due("its maker", x.number(0, 1), Edges.NONE);
        Check.due("one around", x.number(2, 2), Edges.NONE);
    }

    static void promise08_none_inASpaceBesideItsOwn() {
        SpaceWarden x = Check.told("fork 0; numbers 0; numbers 1; fork 0; fork 1;");
        Check.due("2 in 2", x.number(2, 2), Edges.NONE);
        Check.due("3 in 1", x.number(3, 1), Edges.NONE);
    }

    static void promise08_none_notThatOfOneThatEnded() {
        SpaceWarden x = Check.told("fork 0; numbers 0; fork 0; end 2; fork 1;");
        Check.due("2 in 1", x.number(2, 1), Edges.NONE);
        Check.due("2 in 0", x.number(2, 0), 4);
    }

    static void promise08_full_oneInEachAround() {
        SpaceWarden x = Check.told(FOUR_DEEP);
        int[] due = {5, 4, 3, 2, 1};
        for (int space = 0; space < 5; space++) {
            Check.due("in " + space, x.number(4, space), due[space]);
        }
    }

    static void promise08_tooSmall_processOrSpaceBelow0() {
        SpaceWarden x = new SpaceWarden();
        Check.noSuch("process -1", () -> x.number(-1, 0));
        Check.noSuch("space -1", () -> x.number(0, -1));
    }

    static void promise08_tooLarge_processOrSpaceThatThereIsNot() {
        SpaceWarden x = Check.told("fork 0; end 1;");
        Check.noSuch("process 1", () -> x.number(1, 0));
        Check.noSuch("process 16", () -> x.number(16, 0));
        Check.noSuch("space 1", () -> x.number(0, 1));
        Check.noSuch("space 8", () -> x.number(0, 8));
    }

    // Promise 9: listed.

    static void promise09_none_howMany() {
        Check.due("one", new SpaceWarden().listed(0, -1), 1);
        Check.due("sixteen", Check.told(SIXTEEN).listed(0, -1), 16);
    }

    static void promise09_empty_spaceWithoutProcesses() {
        SpaceWarden x = Check.told("numbers 0;");
        Check.due("how many", x.listed(1, -1), 0);
        Check.noSuch("the first", () -> x.listed(1, 0));
    }

    static void promise09_empty_deadSpace() {
        SpaceWarden x = Check.told("numbers 0; fork 0; fork 0; end 1;");
        Check.due("how many", x.listed(1, -1), 0);
        Check.noSuch("the first", () -> x.listed(1, 0));
    }

    static void promise09_tooSmall_iBelowNone() {
        SpaceWarden x = new SpaceWarden();
        Check.noSuch("i -2", () -> x.listed(0, -2));
        Check.noSuch("i of the least int", () -> x.listed(0, LEAST));
    }

    static void promise09_tooLarge_iBehindTheLast() {
        SpaceWarden x = Check.told("fork 0;");
        Check.due("the last", x.listed(0, 1), 1);
        Check.noSuch("behind it", () -> x.listed(0, 2));
        Check.noSuch("i of the greatest int", () -> x.listed(0, GREATEST));
    }

    static void promise09_full_sixteen() {
        SpaceWarden x = Check.told(SIXTEEN);
        Check.due("the last", x.listed(0, 15), 15);
        Check.noSuch("behind it", () -> x.listed(0, 16));
    }

    static void promise09_order_byNumberNotByProcess() {
        SpaceWarden x = Check.told("fork 0; fork 0; end 1; fork 0;");
        Check.due("number 3", x.listed(0, 1), 2);
        Check.due("number 4", x.listed(0, 2), 1);
    }

    static void promise09_last_number20() {
        SpaceWarden x = Check.told("fork 0; end 1; ".repeat(18) + "fork 0;");
        Check.due("its number", x.number(1, 0), 20);
        Check.due("how many", x.listed(0, -1), 2);
        Check.due("the last", x.listed(0, 1), 1);
    }

    static void promise09_part_thoseWithinAreListedToo() {
        Check.due("in the root", Check.told(FOUR_DEEP).listed(0, -1), 5);
        Check.due("in space 3", Check.told(FOUR_DEEP).listed(3, -1), 2);
    }

    static void promise09_tooSmallTooLarge_space() {
        SpaceWarden x = new SpaceWarden();
        for (int space : new int[] {-1, 1, 8, LEAST, GREATEST}) {
            Check.noSuch("space " + space, () -> x.listed(space, -1));
            Check.noSuch("space " + space, () -> x.listed(space, 0));
        }
    }

    // Promise 10: inside.

    static void promise10_tooSmall_idBelow0() {
        SpaceWarden x = Check.told(RANGES);
        Check.illegal("ID -1", () -> x.inside(1, -1));
        Check.illegal("ID -1 at the root", () -> x.inside(0, -1));
        Check.illegal("ID of the least int", () -> x.inside(1, LEAST));
    }

    static void promise10_tooLarge_idOf100() {
        SpaceWarden x = Check.told(RANGES);
        Check.illegal("ID 100", () -> x.inside(1, 100));
        Check.illegal("ID 100 at the root", () -> x.inside(0, 100));
        Check.illegal("NOBODY", () -> x.inside(0, Edges.NOBODY));
        Check.illegal("ID of the greatest int", () -> x.inside(1, GREATEST));
    }

    static void promise10_least_idOf0AndGreatestOf99() {
        SpaceWarden x = Check.told(RANGES);
        Check.due("0", x.inside(0, 0), 0);
        Check.due("99", x.inside(0, 99), 99);
        Check.due("0 in 1", x.inside(1, 0), Edges.NOBODY);
        Check.due("99 in 1", x.inside(1, 99), Edges.NOBODY);
    }

    static void promise10_tooSmallTooLarge_space() {
        SpaceWarden x = Check.told(RANGES);
        for (int space : new int[] {-1, 4, 8, LEAST, GREATEST}) {
            Check.noSuch("space " + space, () -> x.inside(space, 0));
        }
    }

    static void promise10_refused_noSuchSpaceComesFirst() {
        SpaceWarden x = Check.told(RANGES);
        Check.noSuch("both", () -> x.inside(4, 100));
        Check.noSuch("both", () -> x.inside(-1, -1));
    }

    static void promise10_nobody_aheadOfARangeAndBehindIt() {
        SpaceWarden x = Check.told(RANGES);
        Check.due("ahead of it", x.inside(1, 19), Edges.NOBODY);
        Check.due("its first", x.inside(1, 20), 10);
        Check.due("its last", x.inside(1, 24), 14);
        Check.due("behind it", x.inside(1, 25), Edges.NOBODY);
    }

    static void promise10_nobody_knownInTheParentAlone() {
        SpaceWarden x = Check.told(RANGES);
        Check.due("ahead of the inner range", x.inside(2, 21), Edges.NOBODY);
        Check.due("its first", x.inside(2, 22), 0);
        Check.due("its last", x.inside(2, 23), 1);
        Check.due("behind it", x.inside(2, 24), Edges.NOBODY);
    }

    static void promise10_nobody_alreadyInTheParent() {
        // 12 of the root is nobody in 1, though the range of 2 is from 12 on in 1.
        Check.due("12", Check.told(RANGES).inside(2, 12), Edges.NOBODY);
    }

    static void promise10_nobody_withoutRanges() {
        for (int id = 0; id < 100; id++) {
            Check.due("ID " + id, Check.told("user 0;").inside(1, id), Edges.NOBODY);
        }
        Check.due("in 3", Check.told(RANGES).inside(3, 22), Edges.NOBODY);
    }

    static void promise10_full_rangeUpTo99() {
        SpaceWarden x = Check.told("fork 0; user 1; map 0 1 1 1 99;");
        Check.due("99", x.inside(1, 99), 99);
        Check.due("1", x.inside(1, 1), 1);
        Check.due("0", x.inside(1, 0), Edges.NOBODY);
    }

    static void promise10_full_fourDeep() {
        SpaceWarden x = Check.told("fork 0; user 1; map 0 1 1 0 20; user 1; map 0 2 1 0 20; map 0 2 2 1 19; user 1;"
            + "map 0 3 3 2 18; user 1; map 0 4 4 3 17;");
        Check.due("0 four deep", x.inside(4, 0), 4);
        Check.due("16 four deep", x.inside(4, 16), 20);
        Check.due("17 four deep", x.inside(4, 17), Edges.NOBODY);
        Check.due("4 back", x.outside(4, 4), 0);
        Check.due("20 back", x.outside(4, 20), 16);
        Check.due("3 back", x.outside(4, 3), Edges.NOBODY);
    }

    // Promise 11: outside.

    static void promise11_tooSmall_idBelow0() {
        SpaceWarden x = Check.told(RANGES);
        Check.illegal("ID -1", () -> x.outside(1, -1));
        Check.illegal("ID -1 at the root", () -> x.outside(0, -1));
        Check.illegal("ID of the least int", () -> x.outside(1, LEAST));
    }

    static void promise11_tooLarge_idOf100() {
        SpaceWarden x = Check.told(RANGES);
        Check.illegal("ID 100", () -> x.outside(1, 100));
        Check.illegal("ID 100 at the root", () -> x.outside(0, 100));
        Check.illegal("NOBODY", () -> x.outside(0, Edges.NOBODY));
        Check.illegal("ID of the greatest int", () -> x.outside(1, GREATEST));
    }

    static void promise11_least_idOf0AndGreatestOf99() {
        SpaceWarden x = Check.told(RANGES);
        Check.due("0", x.outside(0, 0), 0);
        Check.due("99", x.outside(0, 99), 99);
        Check.due("0 of 1", x.outside(1, 0), Edges.NOBODY);
        Check.due("99 of 1", x.outside(1, 99), Edges.NOBODY);
    }

    static void promise11_tooSmallTooLarge_space() {
        SpaceWarden x = Check.told(RANGES);
        for (int space : new int[] {-1, 4, 8, LEAST, GREATEST}) {
            Check.noSuch("space " + space, () -> x.outside(space, 0));
        }
    }

    static void promise11_refused_noSuchSpaceComesFirst() {
        SpaceWarden x = Check.told(RANGES);
        Check.noSuch("both", () -> x.outside(4, 100));
        Check.noSuch("both", () -> x.outside(-1, -1));
    }

    static void promise11_nobody_aheadOfARangeAndBehindIt() {
        SpaceWarden x = Check.told(RANGES);
        Check.due("ahead of it", x.outside(1, 9), Edges.NOBODY);
        Check.due("its first", x.outside(1, 10), 20);
        Check.due("its last", x.outside(1, 14), 24);
        Check.due("behind it", x.outside(1, 15), Edges.NOBODY);
    }

    static void promise11_nobody_twoDeep() {
        SpaceWarden x = Check.told(RANGES);
        Check.due("its first", x.outside(2, 0), 22);
        Check.due("its last", x.outside(2, 1), 23);
        Check.due("behind it", x.outside(2, 2), Edges.NOBODY);
    }

    static void promise11_nobody_withoutRanges() {
        Check.due("in 3", Check.told(RANGES).outside(3, 0), Edges.NOBODY);
    }

    // Promise 12: range.

    private static final String THREE_RANGES = "fork 0; user 1; map 0 1 50 5 3; map 0 1 0 60 4; map 0 1 20 40 1;";

    static void promise12_tooSmall_iBelow0() {
        SpaceWarden x = Check.told(THREE_RANGES);
        Check.noSuch("i -1", () -> x.range(1, -1, 0));
        Check.noSuch("i of the least int", () -> x.range(1, LEAST, 0));
    }

    static void promise12_tooLarge_iBehindTheLast() {
        SpaceWarden x = Check.told("fork 0; user 1; map 0 1 50 5 3;");
        Check.due("the only one", x.range(1, 0, 0), 50);
        Check.noSuch("i 1", () -> x.range(1, 1, 0));
    }

    static void promise12_full_iOf3() {
        SpaceWarden x = Check.told(THREE_RANGES);
        Check.due("i 2", x.range(1, 2, 0), 50);
        Check.noSuch("i 3", () -> x.range(1, 3, 0));
        Check.noSuch("i of the greatest int", () -> x.range(1, GREATEST, 0));
    }

    static void promise12_empty_noRanges() {
        SpaceWarden x = Check.told("user 0;");
        Check.noSuch("of 1", () -> x.range(1, 0, 0));
        Check.noSuch("of the root", () -> x.range(0, 0, 0));
    }

    static void promise12_tooSmallTooLarge_what() {
        SpaceWarden x = Check.told(THREE_RANGES);
        Check.noSuch("what -1", () -> x.range(1, 0, -1));
        Check.noSuch("what 3", () -> x.range(1, 0, 3));
    }

    static void promise12_tooSmallTooLarge_space() {
        SpaceWarden x = Check.told(THREE_RANGES);
        for (int space : new int[] {-1, 2, 8, LEAST, GREATEST}) {
            Check.noSuch("space " + space, () -> x.range(space, 0, 0));
        }
    }

    static void promise12_order_byInside() {
        SpaceWarden x = Check.told(THREE_RANGES);
        int[][] due = {{0, 60, 4}, {20, 40, 1}, {50, 5, 3}};
        for (int i = 0; i < 3; i++) {
            for (int what = 0; what < 3; what++) {
                Check.due("range " + i + ", " + what, x.range(1, i, what), due[i][what]);
            }
        }
    }

    // Promise 13: mounted.

    static void promise13_tooSmall_placeBelow0() {
        SpaceWarden x = new SpaceWarden();
        Check.noSuch("place -1", () -> x.mounted(0, -1));
        Check.noSuch("place of the least int", () -> x.mounted(0, LEAST));
    }

    static void promise13_tooLarge_placeOf8() {
        SpaceWarden x = Check.told("mounts 0; mount 0 0 5;");
        Check.noSuch("place 8", () -> x.mounted(0, 8));
        Check.noSuch("place of the greatest int", () -> x.mounted(0, GREATEST));
    }

    static void promise13_first_place0AndLast7() {
        SpaceWarden x = Check.told("mount 0 0 1; mount 0 7 99;");
        Check.due("place 0", x.mounted(0, 0), 1);
        Check.due("place 7", x.mounted(0, 7), 99);
    }

    static void promise13_empty_nothing() {
        Check.due("nothing yet", new SpaceWarden().mounted(0, 3), 0);
        Check.due("nothing again", Check.told("mount 0 3 5; mount 0 3 0;").mounted(0, 3), 0);
    }

    static void promise13_tooSmallTooLarge_space() {
        SpaceWarden x = new SpaceWarden();
        for (int space : new int[] {-1, 1, 8, LEAST, GREATEST}) {
            Check.noSuch("space " + space, () -> x.mounted(space, 0));
        }
    }

    static void promise13_full_space7() {
        Check.due("space 7, place 7", Check.told("mount 0 7 5;" + EIGHT_MOUNTSPACES).mounted(7, 7), 5);
    }

    // Promise 14: may.

    /** 2 is the init of number space 1, 3 in it; 4 in the root of ID 5 without power. */
    private static final String SEEN = "fork 0; numbers 0; fork 0; fork 2; fork 1; become 4 5;";
    /** 1 (ID 7, no power) owns user space 1, in which 2 is with power, and mount space 1. */
    private static final String OWNED = "fork 0; become 1 7; fork 1; user 2; mounts 2;";

    static void promise14_tooSmallTooLarge_p() {
        SpaceWarden x = Check.told(SEEN);
        for (int p : new int[] {-1, 5, 16, LEAST, GREATEST}) {
            Check.noSuch("p " + p, () -> x.may(p, 0, 0));
        }
    }

    static void promise14_tooSmallTooLarge_q() {
        SpaceWarden x = Check.told(SEEN);
        for (int q : new int[] {-1, 5, 16, LEAST, GREATEST}) {
            Check.noSuch("q " + q, () -> x.may(0, q, 0));
        }
    }

    static void promise14_tooSmallTooLarge_what() {
        SpaceWarden x = Check.told(SEEN);
        for (int what : new int[] {-1, 6, LEAST, GREATEST}) {
            Check.noSuch("what " + what, () -> x.may(0, 1, what));
        }
    }

    static void promise14_sees_oneself() {
        SpaceWarden x = Check.told(SEEN);
        for (int p = 0; p < 5; p++) {
            Check.due("process " + p, x.may(p, p, 0), 1);
        }
    }

    static void promise14_sees_inwardNotOutward() {
        SpaceWarden x = Check.told(SEEN);
        Check.due("inward", x.may(4, 3, 0), 1);
        Check.due("outward", x.may(3, 4, 0), 0);
        Check.due("outward, its parent's parent", x.may(2, 0, 0), 0);
    }

    static void promise14_sees_notBeside() {
        SpaceWarden x = Check.told("fork 0; numbers 0; numbers 1; fork 0; fork 1;");
        Check.due("beside", x.may(2, 3, 0), 0);
        Check.due("beside, the other way", x.may(3, 2, 0), 0);
    }

    static void promise14_sees_byTheSpaceItIsInNotByItsChildrens() {
        SpaceWarden x = Check.told("numbers 0;  fork 0; fork 1;");
        Check.due("0 sees itself", x.may(0, 0, 0), 1);
        Check.due("0 sees 2", x.may(0, 2, 0), 1);
    }

    static void promise14_power_overQsSpace() {
        SpaceWarden x = Check.told(OWNED);
        Check.due("of the owner over 2's", x.may(1, 2, 1), 1);
        Check.due("of the owner over its own", x.may(1, 1, 1), 0);
        Check.due("outward", x.may(2, 1, 1), 0);
    }

    static void promise14_power_evenIfPDoesNotSeeQ() {
        SpaceWarden x = Check.told(SEEN);
        Check.due("2 doesn't see 0", x.may(2, 0, 0), 0);
        Check.due("it has power over its space", x.may(2, 0, 1), 1);
    }

    static void promise14_kill_notProcess0() {
        SpaceWarden x = Check.told("fork 0;");
        Check.due("by 0", x.may(0, 0, 2), 0);
        Check.due("by 1", x.may(1, 0, 2), 0);
    }

    static void promise14_kill_notTheInitOfItsOwnSpace() {
        SpaceWarden x = Check.told(SEEN);
        Check.due("by another in it", x.may(3, 2, 2), 0);
        Check.due("by itself", x.may(2, 2, 2), 0);
        Check.due("from outside", x.may(1, 2, 2), 1);
    }

    static void promise14_kill_anInitWithin() {
        Check.due("by one around", Check.told(FOUR_DEEP).may(1, 3, 2), 1);
    }

    /** Words: nothing says that it can't be oneself. */
    static void promise14_kill_oneself() {
        Check.due("by its own ID", Check.told(SEEN).may(4, 4, 2), 1);
    }

    static void promise14_kill_itsIdWithoutPower() {
        SpaceWarden x = Check.told("fork 0; fork 0; fork 0; become 1 5; become 2 5; become 3 6;");
        Check.due("its ID", x.may(1, 2, 2), 1);
        Check.due("another ID", x.may(1, 3, 2), 0);
    }

    static void promise14_kill_notWhomItDoesNotSee() {
        Check.due("of its ID, with power", Check.told(SEEN).may(2, 1, 2), 0);
    }

    static void promise14_kill_itsIdInAnotherUserSpace() {
        SpaceWarden x = Check.told("fork 0; user 1;");
        x.fork(0);
        Check.due("outward by its ID", x.may(1, 2, 2), 1);
    }

    static void promise14_enterUser_notOneself() {
        Check.due("oneself", Check.told(OWNED).may(2, 2, 3), 0);
    }

    static void promise14_enterUser_notIfItIsInIt() {
        Check.due("in it", Check.told("fork 0;").may(0, 1, 3), 0);
    }

    static void promise14_enterUser_byOwningIt() {
        Check.due("without power", Check.told(OWNED).may(1, 2, 3), 1);
    }

    static void promise14_enterUser_notOutward() {
        Check.due("outward", Check.told(OWNED).may(2, 0, 3), 0);
    }

    static void promise14_enterUser_notByOneThatItDoesNotSee() {
        SpaceWarden x = Check.told("fork 0; numbers 0; fork 0; user 1;");
        Check.due("power over it", x.may(2, 1, 1), 1);
        Check.due("not seen", x.may(2, 1, 3), 0);
        Check.due("seen", x.may(0, 1, 3), 1);
    }

    static void promise14_enterNumbers_notIfItIsItsChildrens() {
        SpaceWarden x = Check.told("fork 0; numbers 0; fork 0;");
        Check.due("its children's", x.may(0, 2, 4), 0);
        Check.due("not its children's", x.may(1, 2, 4), 1);
    }

    static void promise14_enterNumbers_backToItsOwn() {
        Check.due("by one in it", Check.told("fork 0; numbers 0;").may(0, 1, 4), 1);
        Check.due("not by oneself", Check.told("fork 0; numbers 0;").may(0, 0, 4), 0);
    }

    static void promise14_enterNumbers_notWithoutPowerOverTheKeeper() {
        SpaceWarden x = Check.told("fork 0; numbers 0; fork 0; become 1 5;");
        Check.due("without power", x.may(1, 2, 4), 0);
    }

    static void promise14_enterNumbers_byOwningTheKeeper() {
        SpaceWarden x = Check.told("fork 0; become 1 7; fork 1; user 2; numbers 2; fork 2;");
        Check.due("the owner, without power", x.may(1, 3, 4), 1);
    }

    static void promise14_enterNumbers_notWhomItDoesNotSee() {
        Check.due("outward", Check.told("numbers 0; fork 0; numbers 1;").may(1, 0, 4), 0);
    }

    static void promise14_enterMounts_notOneself() {
        Check.due("oneself", Check.told("mounts 0;").may(0, 0, 5), 0);
    }

    static void promise14_enterMounts_notIfItIsInIt() {
        Check.due("in it", Check.told("fork 0;").may(0, 1, 5), 0);
    }

    static void promise14_enterMounts_notWithoutPowerThoughOverTheKeeper() {
        SpaceWarden x = Check.told(OWNED);
        Check.due("power over the keeper", x.over(1, 1), 1);
        Check.due("no power", x.may(1, 2, 5), 0);
    }

    static void promise14_enterMounts_notWithPowerButNotOverTheKeeper() {
        SpaceWarden x = Check.told(OWNED);
        Check.due("power", x.process(2, 8), 1);
        Check.due("not over the keeper", x.may(2, 0, 5), 0);
    }

    static void promise14_enterMounts_byTheKeeperNotByQsUserSpace() {
        SpaceWarden x = Check.told("fork 0; user 1; fork 1; mounts 1; enter 0 1 mounts;");
        Check.due("no power over 0's user space", x.may(2, 0, 1), 0);
        Check.due("but over the keeper", x.may(2, 0, 5), 1);
        SpaceWarden y = Check.told("fork 0; mounts 1; user 1; fork 1; user 1; mounts 2;");
        Check.due("power over 1's user space", y.may(2, 1, 1), 1);
        Check.due("but not over the keeper", y.may(2, 1, 5), 0);
    }

    static void promise14_enterMounts_notByOneThatItDoesNotSee() {
        Check.due("not seen", Check.told("numbers 0; fork 0; mounts 0;").may(1, 0, 5), 0);
    }

    static void promise14_refused_askingChangesNothing() {
        SpaceWarden x = Check.told(OWNED);
        String before = Edges.state(x);
        for (int what = 0; what < 6; what++) {
            x.may(0, 2, what);
            x.may(1, 2, what);
        }
        Edges.same("nothing changes", before, Edges.state(x));
        Check.due("STATUS 1", x.count(11), 0);
    }

    // Promise 15: over.

    /** User spaces 1 (owner 7) in the root, 2 (owner 7) and 3 (owner 8) in 1; 1 and 3 are in the root. */
    private static final String POWERS = "fork 0; fork 0; fork 0; become 1 7; become 2 7; user 2; map 0 1 0 0 20; fork 2;"
        + "user 2; become 4 8; user 4; become 3 8;";

    static void promise15_tooSmallTooLarge_p() {
        SpaceWarden x = Check.told(POWERS);
        for (int p : new int[] {-1, 5, 16, LEAST, GREATEST}) {
            Check.noSuch("p " + p, () -> x.over(p, 0));
        }
    }

    static void promise15_tooSmallTooLarge_space() {
        SpaceWarden x = Check.told(POWERS);
        for (int space : new int[] {-1, 4, 8, LEAST, GREATEST}) {
            Check.noSuch("space " + space, () -> x.over(0, space));
        }
    }

    static void promise15_own_withPowerOrWithout() {
        SpaceWarden x = Check.told(POWERS);
        Check.due("with power", x.over(0, 0), 1);
        Check.due("without", x.over(1, 0), 0);
        Check.due("with power, further in", x.over(2, 2), 1);
    }

    static void promise15_own_ownerInItWithoutPower() {
        // 1 is 0 at the root, the owner, but became 5 of its space, and so lost power.
        SpaceWarden x = Check.told("fork 0; user 1; map 0 1 5 0 1; become 1 5;");
        Check.due("its ID is the owner", x.process(1, 6), x.space(1, 1, 2));
        Check.due("over it", x.over(1, 1), 0);
    }

    static void promise15_owner_fromItsParent() {
        SpaceWarden x = Check.told(POWERS);
        Check.due("the owner without power", x.over(1, 1), 1);
        Check.due("another ID without power", x.over(3, 1), 0);
    }

    static void promise15_owner_ofOneAroundIt() {
        SpaceWarden x = Check.told(POWERS);
        Check.due("over 3 by owning 1", x.over(1, 3), 1);
        Check.due("over 2 by owning 1", x.over(1, 2), 1);
    }

    static void promise15_owner_notFromFurtherOutThanItsParent() {
        Check.due("the owner of 3, from the root", Check.told(POWERS).over(3, 3), 0);
    }

    static void promise15_behindTheRoot_no() {
        SpaceWarden x = Check.told(POWERS);
        Check.due("outward by one", x.over(2, 1), 0);
        Check.due("over the root", x.over(2, 0), 0);
        Check.due("beside", x.over(2, 3), 0);
    }

    static void promise15_full_fourDeep() {
        SpaceWarden x = Check.told("fork 0; fork 0; become 2 5; user 1; user 1; user 1; user 1;");
        Check.due("with power at the root", x.over(0, 4), 1);
        Check.due("without", x.over(2, 4), 0);
    }
}
