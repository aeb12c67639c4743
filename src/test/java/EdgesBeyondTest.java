/** Boundary cases of promises 26 to 35: what would be, what was noted, years, images. */
public final class EdgesBeyondTest {
    private static final int LEAST = Integer.MIN_VALUE;
    private static final int GREATEST = Integer.MAX_VALUE;
    private static final String SIXTEEN = "fork 0;".repeat(15);
    /** Number spaces 1 to 4, each in the one ahead; process i is the init of space i. */
    private static final String FOUR_DEEP = "numbers 0; fork 0; numbers 1; fork 1; numbers 2; fork 2; numbers 3; fork 3;";
    /** 1 (ID 7, no power) owns user space 1, in which 2 is with power, and mount space 1. */
    private static final String OWNED = "fork 0; become 1 7; fork 1; user 2; mounts 2;";

    public static void main(String[] args) {
        Edges.run(EdgesBeyondTest.class, 26, 35);
    }

    // Promise 26: set.

    static void promise26_tooSmallTooLarge_p() {
        SpaceWarden x = Check.told("fork 0; fork 0; end 1;");
        for (int what = 0; what < 3; what++) {
            int of = what;
            for (int p : new int[] {-1, 1, 3, 16, LEAST, GREATEST}) {
                Check.noSuch("p " + p, () -> x.set(p, of));
            }
        }
    }

    static void promise26_tooSmallTooLarge_what() {
        SpaceWarden x = new SpaceWarden();
        for (int what : new int[] {-1, 3, LEAST, GREATEST}) {
            Check.noSuch("what " + what, () -> x.set(0, what));
        }
    }

    static void promise26_fall_of0Nobody() {
        Check.due("fall", Check.told(FOUR_DEEP).set(0, 0), 0);
    }

    static void promise26_fall_notAnInitItselfAlone() {
        Check.due("fall", Check.told("fork 0; fork 1;").set(1, 0), 2);
    }

    static void promise26_fall_anInitAllInItAndWithin() {
        SpaceWarden x = Check.told(FOUR_DEEP);
        Check.due("of 1", x.set(1, 0), 30);
        Check.due("of 3", x.set(3, 0), 24);
        Check.due("of 4", x.set(4, 0), 16);
    }

    static void promise26_fall_fifteen() {
        SpaceWarden x = Check.told("numbers 0;" + "fork 0;".repeat(15));
        Check.due("of the init", x.set(1, 0), 65534);
        Check.due("of 15", x.set(15, 0), 1 << 15);
    }

    static void promise26_fall_nobodyEnds() {
        SpaceWarden x = Check.told(FOUR_DEEP);
        String before = Edges.state(x);
        x.set(1, 0);
        x.set(0, 1);
        x.set(0, 2);
        Edges.same("nothing changes", before, Edges.state(x));
    }

    static void promise26_reach_emptyOfOneAlone() {
        Check.due("reach", new SpaceWarden().set(0, 1), 0);
    }

    static void promise26_reach_neither0NorItsOwnInit() {
        SpaceWarden x = Check.told("fork 0; numbers 0; fork 0; fork 0;");
        Check.due("of 0", x.set(0, 1), 14);
        Check.due("of the init", x.set(2, 1), 8);
        Check.due("of another there", x.set(3, 1), 8);
    }

    static void promise26_reach_itselfToo() {
        Check.due("reach", Check.told("fork 0; fork 0; become 1 5;").set(1, 1), 2);
    }

    static void promise26_reach_full() {
        Check.due("of 0", Check.told(SIXTEEN).set(0, 1), 65534);
        Check.due("of 15", Check.told(SIXTEEN).set(15, 1), 65534);
    }

    static void promise26_reach_notAllThatWouldFall() {
        // 1 of ID 5 could kill the init 3 of its own ID alone, though 4 of ID 0 would end by that.
        SpaceWarden x = Check.told("fork 0; become 1 5; fork 0; numbers 2; fork 2; fork 2; become 3 5;");
        Check.due("reach", x.set(1, 1), 10);
        Check.due("who would end by it", x.set(3, 0), 24);
    }

    static void promise26_roams_itsOwnAlone() {
        Check.due("roams", new SpaceWarden().set(0, 2), 1);
        Check.due("in another", Check.told("mounts 0;").set(0, 2), 2);
    }

    static void promise26_roams_notOneThatNoneIsIn() {
        Check.due("roams", Check.told("fork 0; mounts 1; mounts 1;").set(0, 2), 5);
    }

    static void promise26_roams_byPowerOverAUserSpaceFirst() {
        Check.due("roams", Check.told(OWNED).set(1, 2), 3);
        Check.due("not outward", Check.told(OWNED).set(2, 2), 2);
    }

    static void promise26_roams_allEight() {
        SpaceWarden x = Check.told(SIXTEEN + "mounts 1;mounts 2;mounts 3;mounts 4;mounts 5;mounts 6;mounts 7;");
        Check.due("roams", x.set(0, 2), 255);
    }

    // Promise 27: shared.

    static void promise27_tooSmallTooLarge_space() {
        SpaceWarden x = Check.told("user 0;");
        for (int space : new int[] {-1, 2, 8, LEAST, GREATEST}) {
            Check.noSuch("space " + space, () -> x.shared(space, 0));
            Check.noSuch("other " + space, () -> x.shared(0, space));
            Check.noSuch("both " + space, () -> x.shared(space, space));
        }
    }

    static void promise27_width_ofTheRoot100() {
        Check.due("width", new SpaceWarden().shared(0, 0), 100);
    }

    static void promise27_width_withoutRanges0() {
        Check.due("width", Check.told("user 0;").shared(1, 1), 0);
        Check.due("with the root", Check.told("user 0;").shared(0, 1), 0);
    }

    static void promise27_width_ofOneIdAndOf99() {
        Check.due("one", Check.told("user 0; map 0 1 99 0 1;").shared(1, 1), 1);
        Check.due("99", Check.told("fork 0; user 0; map 1 1 0 1 99;").shared(1, 1), 99);
        Check.due("the last one", Check.told("fork 0; user 0; map 1 1 0 99 1;").shared(1, 1), 1);
    }

    static void promise27_width_allHundredByTwoRanges() {
        Check.due("100", Check.told("fork 0; user 0; map 1 1 0 0 50; map 1 1 50 50 50;").shared(1, 1), 100);
    }

    static void promise27_shared_rangesThatMeetOrNot() {
        String two = "fork 0; user 0; fork 1; user 2; map 1 1 0 10 10;";
        Check.due("right behind", Check.told(two + "map 1 2 0 20 10;").shared(1, 2), 0);
        Check.due("one in common", Check.told(two + "map 1 2 0 19 10;").shared(1, 2), 1);
        Check.due("one in common, ahead", Check.told(two + "map 1 2 0 1 10;").shared(1, 2), 1);
        Check.due("right ahead", Check.told(two + "map 1 2 0 0 10;").shared(1, 2), 0);
        Check.due("the same", Check.told(two + "map 1 2 50 10 10;").shared(1, 2), 10);
        Check.due("the other way", Check.told(two + "map 1 2 0 15 10;").shared(2, 1), 5);
    }

    static void promise27_shared_oneWithinTheOther() {
        Check.due("shared", Check.told("fork 0; user 1; map 0 1 0 10 10; user 1; map 0 2 5 8 2;").shared(1, 2), 2);
    }

    // Promise 28: steps.

    static void promise28_tooSmallTooLarge_p() {
        SpaceWarden x = Check.told("fork 0; fork 0; end 1;");
        for (int p : new int[] {-1, 1, 3, 16, LEAST, GREATEST}) {
            Check.noSuch("p " + p, () -> x.steps(p, 0));
        }
    }

    static void promise28_tooSmallTooLarge_space() {
        SpaceWarden x = Check.told("mounts 0;");
        for (int space : new int[] {-1, 2, 8, LEAST, GREATEST}) {
            Check.noSuch("space " + space, () -> x.steps(0, space));
        }
    }

    static void promise28_zero_itIsInIt() {
        Check.due("steps", new SpaceWarden().steps(0, 0), 0);
        Check.due("without power", Check.told("become 0 5;").steps(0, 0), 0);
    }

    static void promise28_one_atOnce() {
        Check.due("steps", Check.told("fork 0; mounts 1;").steps(0, 1), 1);
        Check.due("outward", Check.told("fork 0; mounts 1;").steps(1, 0), 1);
    }

    static void promise28_two_byAUserSpaceFirst() {
        Check.due("steps", Check.told(OWNED).steps(1, 1), 2);
    }

    static void promise28_two_byAnotherProcessThanTheUserSpaces() {
        // 3 is in the keeper 1, but in mount space 0; 2 in mount space 1 has gone on into user space 2.
        Check.due("steps", Check.told("fork 0; become 1 7; fork 1; user 2; fork 2; mounts 2; user 2;").steps(1, 1), 2);
    }

    static void promise28_two_behindManyInAnotherUserSpace() {
        // 1 of ID 7 owns user spaces 1, with ten in it, and 2, with mount space 1, in which the last process is.
        SpaceWarden x = Check.told("fork 0; become 1 7; fork 1; user 2;" + "fork 2;".repeat(9)
            + "fork 1; user 12; mounts 12;");
        Check.due("in user space 1", x.space(1, 1, 3), 10);
        Check.due("steps", x.steps(1, 1), 2);
        Check.due("roams", x.set(1, 2), 3);
    }

    static void promise28_none_noPowerAndNoneToEnter() {
        Check.due("steps", Check.told("fork 0; mounts 1; become 0 5;").steps(0, 1), Edges.NONE);
    }

    static void promise28_none_keeperIsOutOfItsPower() {
        Check.due("steps", Check.told("fork 0; user 1; mounts 0;").steps(1, 1), Edges.NONE);
    }

    static void promise28_none_powerComesOnlyFurtherInThanTheKeeper() {
        // 1 can enter user space 2 alone, which is within the keeper 1 and has no power over it.
        Check.due("steps", Check.told("fork 0; become 1 7; fork 1; user 2; mounts 2; user 2;").steps(1, 1), Edges.NONE);
    }

    static void promise28_none_unseen() {
        Check.due("steps", Check.told("numbers 0; fork 0; mounts 0;").steps(1, 1), Edges.NONE);
    }

    static void promise28_none_noProcessIsInIt() {
        Check.due("its own of before", Check.told("mounts 0;").steps(0, 0), Edges.NONE);
        Check.due("one that ended was", Check.told("fork 0; mounts 1; end 1;").steps(0, 1), Edges.NONE);
    }

    static void promise28_fewest_notByUserSpacesIfOneIsEnough() {
        Check.due("steps", Check.told("fork 0; user 1; mounts 1;").steps(0, 1), 1);
    }

    static void promise28_stays_allIsAsItWas() {
        SpaceWarden x = Check.told(OWNED);
        String before = Edges.state(x);
        x.steps(1, 1);
        Edges.same("nothing changes", before, Edges.state(x));
    }

    // Promise 29: note.

    static void promise29_full_eighth() {
        SpaceWarden x = new SpaceWarden();
        for (int i = 1; i <= 8; i++) {
            Check.due("note", x.note(0, i, true), i);
        }
        Check.due("none refused", x.count(12), 0);
    }

    static void promise29_full_ninth() {
        SpaceWarden x = new SpaceWarden();
        for (int i = 1; i <= 8; i++) {
            x.note(0, 1, true);
        }
        Check.due("a ninth", x.note(0, 1, true), Edges.NONE);
        Check.due("STATUS 2", x.count(12), 1);
        Check.due("noted", x.count(8), 8);
    }

    static void promise29_full_ninthIsNotTakenInto() {
        SpaceWarden x = Check.told("fork 0;");
        for (int i = 1; i <= 8; i++) {
            x.note(0, 1, true);
        }
        x.note(0, 1, false);
        Check.due("fits", x.fits(), 2);
    }

    private static void refusesNote(String text, int space, int number) {
        for (int there = 0; there < 2; there++) {
            SpaceWarden x = Check.told(text);
            Check.due("note " + space + ", " + number, x.note(space, number, there == 1), Edges.NONE);
            Check.due("STATUS 2", x.count(12), 1);
            Check.due("STATUS 1", x.count(11), 0);
            Check.due("noted", x.count(8), 0);
        }
    }

    static void promise29_tooSmallTooLarge_space() {
        for (int space : new int[] {-1, 2, 8, LEAST, GREATEST}) {
            refusesNote("numbers 0;", space, 1);
        }
    }

    static void promise29_tooSmall_number0() {
        for (int number : new int[] {0, -1, LEAST}) {
            refusesNote("numbers 0;", 0, number);
        }
    }

    static void promise29_tooLarge_number21() {
        for (int number : new int[] {21, 32, GREATEST}) {
            refusesNote("numbers 0;", 0, number);
        }
    }

    static void promise29_least_number1AndGreatest20() {
        SpaceWarden x = Check.told("numbers 0;");
        Check.due("1", x.note(1, 1, true), 1);
        Check.due("20", x.note(1, 20, true), 2);
    }

    static void promise29_dead_spaceCanBeNoted() {
        Check.due("note", Check.told("numbers 0; fork 0; end 1;").note(1, 1, false), 1);
    }

    static void promise29_gone_spaceCanNotBeNoted() {
        SpaceWarden x = new SpaceWarden();
        x.create(0, 0);
        Check.due("while it is there", x.note(1, 1, false), 1);
        x.undo();
        Check.due("when it isn't", x.note(1, 1, false), Edges.NONE);
    }

    // Promise 30: fits.

    static void promise30_empty_nothingNoted() {
        Check.due("all but 0", Check.told("fork 0; fork 0;").fits(), 6);
        Check.due("full", Check.told(SIXTEEN).fits(), 65534);
    }

    static void promise30_empty_process0Alone() {
        Check.due("fits", new SpaceWarden().fits(), 0);
    }

    static void promise30_zero_neverFits() {
        SpaceWarden x = Check.told("fork 0;");
        x.note(0, 1, false);
        Check.due("0's number nobody's", x.fits(), 0);
        x.forget();
        x.note(0, 1, true);
        Check.due("0's number somebody's", x.fits(), 2);
    }

    static void promise30_all_ofEightMustBeSo() {
        SpaceWarden x = Check.told("fork 0;".repeat(9));
        for (int number = 2; number <= 8; number++) {
            x.note(0, number, true);
        }
        Check.due("of seven", x.fits(), 768);
        x.note(0, 9, true);
        Check.due("of eight", x.fits(), 512);
    }

    static void promise30_nobodys_byTheEndOfAnInit() {
        SpaceWarden x = Check.told(FOUR_DEEP);
        x.note(3, 2, false);
        Check.due("4's number in space 3", x.fits(), 30);
        x.note(2, 1, true);
        Check.due("and 2 is there", x.fits(), 24);
    }

    static void promise30_nobodys_numberThatNoneHas() {
        SpaceWarden x = Check.told("fork 0;");
        x.note(0, 20, false);
        Check.due("nobody's", x.fits(), 2);
        x.note(0, 20, true);
        Check.due("somebody's, too", x.fits(), 0);
    }

    static void promise30_gone_spaceThatThereIsNotAnyMore() {
        SpaceWarden x = Check.told("fork 0;");
        x.create(0, 0);
        x.fork(0);
        x.note(1, 1, true);
        Check.due("somebody's", x.fits(), 2);
        x.undo();
        x.undo();
        Check.due("no end makes it somebody's", x.fits(), 0);
        x.forget();
        x.create(0, 0);
        x.note(1, 1, false);
        x.undo();
        Check.due("nobody's by any", x.fits(), 2);
    }

    static void promise30_gone_spaceThatIsThereAgain() {
        SpaceWarden x = Check.told("fork 0;");
        x.create(0, 0);
        x.note(1, 1, true);
        x.undo();
        Check.due("not there", x.fits(), 0);
        x.create(0, 0);
        x.fork(0);
        Check.due("there again", x.fits(), 2);
    }

    // Promise 31: look.

    static void promise31_tooSmallTooLarge_what() {
        SpaceWarden x = Check.told("fork 0;");
        for (int what : new int[] {-1, 2, LEAST, GREATEST}) {
            Check.noSuch("what " + what, () -> x.look(what));
        }
    }

    private static void looks(SpaceWarden x, int which, int lesser) {
        Check.due("which", x.look(0), which);
        Check.due("the lesser", x.look(1), lesser);
    }

    static void promise31_none_noEnds() {
        looks(new SpaceWarden(), Edges.NONE, 0);
    }

    static void promise31_none_oneEnd() {
        looks(Check.told("fork 0;"), Edges.NONE, 0);
    }

    static void promise31_none_endsThatAreAgainstWhatIsNoted() {
        SpaceWarden x = Check.told("fork 0; fork 0; fork 0;");
        x.note(0, 1, false);
        looks(x, Edges.NONE, 0);
    }

    static void promise31_none_allFitBehindOne() {
        SpaceWarden x = Check.told("fork 0; fork 0; fork 0;");
        x.note(0, 3, false);
        looks(x, Edges.NONE, 0);
    }

    static void promise31_least_ofLikeOnes() {
        looks(Check.told("fork 0; fork 0;"), 2, 1);
        SpaceWarden x = Check.told("fork 0; fork 0; fork 0;");
        x.note(0, 2, true);
        looks(x, 3, 1);
    }

    /** Whoever has a number in a space within has one in the root, too, which is the lesser by 100. */
    static void promise31_least_numberOfTheRootAheadOfASpaceWithin() {
        // 1 is the init: its 2 in the root is like its 1 in space 1.
        looks(Check.told("numbers 0; fork 0; fork 0; fork 0;"), 2, 1);
    }

    static void promise31_greatest_ofTheLesser() {
        // 2's number 3 is nobody's by the ends of 1 and 2, somebody's by those of 3 and 4.
        looks(Check.told(FOUR_DEEP), 3, 2);
        looks(Check.told("fork 0; numbers 1; fork 1; fork 2; fork 0;"), 4, 2);
    }

    static void promise31_last_number20() {
        // By the end of the init 1 its 20 is nobody's, by that of 2 somebody's; 2's numbers are gone by both.
        SpaceWarden x = Check.told("fork 0; end 1;".repeat(18) + "numbers 0; fork 0; fork 1;");
        x.note(1, 2, false);
        Check.due("fits", x.fits(), 6);
        looks(x, 20, 1);
    }

    static void promise31_full_eightSpacesAndSixteenProcesses() {
        String eight = "fork 0;".repeat(7) + "numbers 1;numbers 2;numbers 3;numbers 4;numbers 5;numbers 6;numbers 7;"
            + "fork 7;".repeat(8);
        // By the end of 8, the init of space 7, all eight in it end: 9's number 10 is nobody's by two ends.
        SpaceWarden x = Check.told(eight);
        looks(x, 10, 2);
        x.note(7, 8, false);
        Check.due("the init or the last", x.fits(), 1 << 8 | 1 << 15);
        looks(x, 9, 1);
        x.note(7, 1, true);
        looks(x, Edges.NONE, 0);
    }

    static void promise31_dead_spaceTellsNothing() {
        looks(Check.told("numbers 0; fork 0; end 1;"), Edges.NONE, 0);
    }

    // Promise 32: forget.

    static void promise32_empty_nothingNoted() {
        SpaceWarden x = new SpaceWarden();
        x.forget();
        Check.due("noted", x.count(8), 0);
    }

    static void promise32_full_roomForEightAgain() {
        SpaceWarden x = new SpaceWarden();
        for (int i = 1; i <= 8; i++) {
            x.note(0, 20, true);
        }
        x.forget();
        Check.due("noted", x.count(8), 0);
        for (int i = 1; i <= 8; i++) {
            Check.due("note", x.note(0, 1, true), i);
        }
        Check.due("a ninth", x.note(0, 1, true), Edges.NONE);
    }

    static void promise32_all_isForgotten() {
        SpaceWarden x = Check.told("fork 0;");
        x.note(0, 1, false);
        x.note(0, 2, true);
        x.forget();
        Check.due("fits", x.fits(), 2);
    }

    static void promise32_stays_statusActsAndImage() {
        SpaceWarden x = new SpaceWarden();
        x.fork(0);
        x.note(9, 1, true);
        x.note(0, 1, true);
        x.image();
        x.forget();
        Check.due("STATUS 2", x.count(12), 1);
        Check.due("kept", x.count(7), 1);
        Check.yes("restore", x.restore());
        Check.due("noted in the image", x.count(8), 1);
    }

    // Promise 33: years.

    static void promise33_tooSmallTooLarge_what() {
        SpaceWarden x = new SpaceWarden();
        for (int what : new int[] {-1, 3, LEAST, GREATEST}) {
            Check.noSuch("what " + what, () -> x.years(1, 1, what));
        }
    }

    static void promise33_tooSmall_nBelow0() {
        SpaceWarden x = new SpaceWarden();
        for (int what = 0; what < 3; what++) {
            int of = what;
            Check.illegal("n -1", () -> x.years(1, -1, of));
            Check.illegal("n of the least int", () -> x.years(1, LEAST, of));
        }
    }

    static void promise33_tooLarge_nOf61() {
        SpaceWarden x = new SpaceWarden();
        for (int what = 0; what < 3; what++) {
            int of = what;
            Check.illegal("n 61", () -> x.years(1, 61, of));
            Check.illegal("n of the greatest int", () -> x.years(1, GREATEST, of));
        }
    }

    static void promise33_refused_anotherWhatComesFirst() {
        SpaceWarden x = new SpaceWarden();
        Check.noSuch("both", () -> x.years(1, 61, 3));
        Check.noSuch("both", () -> x.years(1, -1, -1));
    }

    static void promise33_empty_noYears() {
        SpaceWarden x = Check.told(FOUR_DEEP);
        Check.due("processes", x.years(20, 0, 0), 5);
        Check.due("acts", x.years(20, 0, 1), 0);
        Check.due("depth", x.years(20, 0, 2), 4);
    }

    /** By the draws of seed 20, the first year is a fork of 0. */
    static void promise33_one_year() {
        SpaceWarden x = new SpaceWarden();
        Check.due("processes", x.years(20, 1, 0), 2);
        Check.due("acts", x.years(20, 1, 1), 1);
        Check.due("depth", x.years(20, 1, 2), 0);
    }

    static void promise33_full_sixtyYears() {
        sixty(1);
        sixty(20);
        sixty(14);
    }

    static void promise33_wrap_seedsOfAllSizes() {
        for (int seed : new int[] {0, -1, LEAST, GREATEST, 1 << 30, 0x7fff0000, 0x80000001}) {
            sixty(seed);
        }
    }

    private static void sixty(int seed) {
        String text = "fork 0;".repeat(12) + "user 1; numbers 2; fork 2; map 0 1 0 0 50; mounts 3;";
        int[] due = FarTest.lived(Check.told(text), seed, 60);
        SpaceWarden x = Check.told(text);
        for (int what = 0; what < 3; what++) {
            Check.due("seed " + seed + ", what " + what, x.years(seed, 60, what), due[what]);
        }
    }

    private static void year(String text, int seed, int acts) {
        Check.due("acts of seed " + seed + " behind \"" + text + "\"", Check.told(text).years(seed, 1, 1), acts);
    }

    /** Each seed here draws one act; which and with what stands behind it. It is done, or can't be. */
    static void promise33_draw_fork() {
        year("", 20, 1); // fork 0
        year(SIXTEEN, 20, 0);
        year("", 45, 0); // fork 1
        year("fork 0;", 45, 1);
    }

    static void promise33_draw_user() {
        year("become 0 5;", 100, 1); // user 0
        year("user 0; user 0; user 0; user 0;", 100, 0);
    }

    static void promise33_draw_numbers() {
        year("", 14, 1); // numbers 0
        year("numbers 0;", 14, 0);
    }

    static void promise33_draw_mounts() {
        year("numbers 0;", 94, 1); // mounts 0
        year("become 0 5;", 94, 0);
    }

    static void promise33_draw_mapOfOneMore() {
        year("fork 0; user 1;", 25134, 1); // map 0 1 96 80 1: the draw of 20 is 0
        year("user 0;", 25134, 0);
        year("fork 0;", 25134, 0);
    }

    static void promise33_draw_mapUpTo99AndBeyond() {
        year("fork 0; user 1;", 170631, 1); // map 0 1 96 22 4
        year("fork 0; user 1;", 6775, 0); // map 0 1 97 57 4
        year("fork 0; user 1;", 41711, 1); // map 0 1 74 87 13
        year("fork 0; user 1;", 30377, 0); // map 0 1 28 95 6
    }

    static void promise33_draw_mapOfTwenty() {
        year("fork 0; user 1; map 0 1 23 31 1;", 30801, 1); // map 0 1 3 11 20
        year("fork 0; user 1; map 0 1 22 60 1;", 30801, 0);
        year("fork 0; user 1; map 0 1 60 30 1;", 30801, 0);
    }

    static void promise33_draw_become() {
        year("", 6265, 1); // become 0 99
        year("user 0;", 6265, 0);
        year("fork 0; user 0; map 1 1 0 99 1; map 1 1 99 0 1;", 6265, 1);
    }

    static void promise33_draw_mount() {
        year("", 167945, 1); // mount 0 7 99
        year("mount 0 7 99;", 167945, 0);
        year("", 1102, 0); // mount 0 6 0
        year("mount 0 6 1;", 1102, 1);
    }

    static void promise33_draw_enterUserNumbersMounts() {
        String users = "fork 0; user 1;";
        String numbers = "numbers 0; fork 0; fork 0; numbers 1;";
        String mounts = "fork 0; mounts 1;";
        year(users, 25208, 1); // enter 0 1 user
        year(mounts, 25208, 0);
        year("fork 0; numbers 0;", 4003, 1); // enter 0 1 numbers
        year(users, 4003, 0);
        year(mounts, 4003, 0);
        year(numbers, 4003, 0);
        year(mounts, 11477, 1); // enter 0 1 mounts
        year(users, 11477, 0);
    }

    static void promise33_draw_end() {
        year("fork 0;", 82, 1); // end 1
        year("", 82, 0);
        year("", 223, 0); // end 0
        year(SIXTEEN, 112, 1); // end 15
        Check.due("processes", Check.told(SIXTEEN).years(112, 1, 0), 15);
    }

    static void promise33_draw_kill() {
        year("fork 0;", 475, 1); // kill 0 1
        year("", 475, 0);
        year("fork 0;", 5128, 0); // kill 1 0
        year(SIXTEEN, 3997, 1); // kill 0 15
        Check.due("processes", Check.told("numbers 0; fork 0; fork 0;").years(475, 1, 0), 1);
    }

    static void promise33_draw_share() {
        year("", 106, 1); // share 0
        year("become 0 5;", 106, 0);
    }

    static void promise33_depth_ofOneInANewSpace() {
        // Seed 14: numbers 0, fork 0.
        SpaceWarden x = new SpaceWarden();
        Check.due("a space that none is in", x.years(14, 1, 2), 0);
        Check.due("one is in it", x.years(14, 2, 2), 1);
        Check.due("acts", x.years(14, 2, 1), 2);
    }

    static void promise33_depth_notOfSpacesThatNoneIsInAnyMore() {
        Check.due("depth", Check.told(FOUR_DEEP + "end 3;").years(1, 0, 2), 2);
    }

    static void promise33_stays_allAsEverBehindIt() {
        SpaceWarden x = Check.told("fork 0; user 1; fork 0;");
        x.fork(0);
        x.note(0, 2, true);
        x.fork(9);
        x.feed(0, 0, 0, 0, 0);
        String before = Edges.state(x);
        for (int seed = 0; seed < 40; seed++) {
            x.years(seed, 60, seed % 3);
        }
        Edges.same("nothing changes", before, Edges.state(x));
        Check.due("STATUS 1", x.count(11), 1);
        Check.due("undo", x.undo(), 0);
        Check.due("its fork", x.count(0), 7);
        x.fork(0);
        Check.due("the next number", x.number(3, 0), 4);
    }

    static void promise33_stays_theSameAnswerAgain() {
        SpaceWarden x = Check.told("fork 0; fork 0; fork 0;");
        int first = x.years(12345, 60, 1);
        x.years(54321, 60, 1);
        Check.due("again", x.years(12345, 60, 1), first);
    }

    // Promise 34: image.

    static void promise34_again_inPlaceOfAnother() {
        SpaceWarden x = new SpaceWarden();
        x.image();
        x.fork(0);
        x.image();
        x.fork(0);
        Check.yes("restore", x.restore());
        Check.due("the later one", x.count(0), 3);
    }

    static void promise34_stays_nothingChangesByIt() {
        SpaceWarden x = Check.told("fork 0;");
        x.fork(1);
        x.note(0, 2, true);
        String before = Edges.state(x);
        x.image();
        Edges.same("nothing changes", before, Edges.state(x));
    }

    static void promise34_empty_ofANewObject() {
        SpaceWarden x = new SpaceWarden();
        String before = Edges.state(x);
        x.image();
        x.fork(0);
        x.note(0, 1, true);
        x.restore();
        Edges.same("as at first", before, Edges.state(x));
    }

    static void promise34_full_keepsFortyActsAndEightNoted() {
        SpaceWarden x = new SpaceWarden();
        for (int i = 1; i <= 45; i++) {
            x.mount(0, 0, i);
        }
        for (int i = 1; i <= 8; i++) {
            x.note(0, i, i % 2 == 0);
        }
        x.image();
        for (int i = 1; i <= 43; i++) {
            x.mount(0, 1, i);
        }
        x.forget();
        Check.yes("restore", x.restore());
        Check.due("kept", x.count(7), 40);
        Check.due("noted", x.count(8), 8);
        for (int i = 39; i >= 0; i--) {
            Check.due("undo", x.undo(), i);
            Check.due("as ahead of it", x.mounted(0, 0), i + 5);
        }
        Check.due("none left", x.undo(), Edges.NONE);
    }

    static void promise34_gone_byARightText() {
        SpaceWarden x = new SpaceWarden();
        x.image();
        x.spaces(0);
        Check.no("restore", x.restore());
        x.image();
        Check.yes("a new one", x.restore());
    }

    // Promise 35: restore.

    static void promise35_none_noImageYet() {
        SpaceWarden x = Check.told("fork 0;");
        x.fork(0);
        String before = Edges.state(x);
        Check.no("restore", x.restore());
        Edges.same("nothing changes", before, Edges.state(x));
    }

    static void promise35_again_theImageIsStillThere() {
        SpaceWarden x = new SpaceWarden();
        x.image();
        for (int i = 0; i < 3; i++) {
            x.fork(0);
            Check.yes("restore", x.restore());
            Check.due("as the image", x.count(0), 1);
        }
    }

    static void promise35_again_actsBehindItLeaveTheImageAlone() {
        SpaceWarden x = Check.told("fork 0; user 1; mount 0 0 1;");
        x.fork(1);
        x.note(0, 1, true);
        x.image();
        String before = Edges.state(x);
        x.restore();
        x.undo();
        x.map(0, 1, 0, 0, 5);
        x.mount(0, 0, 2);
        x.note(0, 2, false);
        x.end(1);
        Check.yes("restore", x.restore());
        Edges.same("as the image", before, Edges.state(x));
    }

    static void promise35_status_isAsItWas() {
        SpaceWarden x = new SpaceWarden();
        Check.tell(x, "no;");
        x.fork(9);
        x.fork(9);
        x.note(9, 1, true);
        x.note(9, 1, true);
        x.note(9, 1, true);
        x.image();
        Check.tell(x, "no;");
        x.fork(9);
        x.note(9, 1, true);
        x.restore();
        Check.due("STATUS 0", x.count(10), 1);
        Check.due("STATUS 1", x.count(11), 2);
        Check.due("STATUS 2", x.count(12), 3);
    }

    static void promise35_noted_isAsItWas() {
        SpaceWarden x = Check.told("fork 0; fork 0;");
        x.note(0, 2, true);
        x.image();
        x.forget();
        x.note(0, 3, true);
        x.note(0, 1, false);
        x.restore();
        Check.due("noted", x.count(8), 1);
        Check.due("fits", x.fits(), 4);
    }

    static void promise35_noted_itsSpaceAndWhetherItIsThereToo() {
        SpaceWarden x = Check.told("fork 0; numbers 0; fork 0; fork 0;");
        x.note(1, 2, false);
        x.note(0, 3, true);
        int before = x.fits();
        Check.due("only 3's end", before, 8);
        x.image();
        x.forget();
        x.note(0, 2, true);
        x.note(1, 3, false);
        x.restore();
        Check.due("fits", x.fits(), before);
    }

    static void promise35_acts_areAsTheyWere() {
        SpaceWarden x = new SpaceWarden();
        x.fork(0);
        x.fork(0);
        x.image();
        x.undo();
        x.undo();
        x.restore();
        Check.due("kept", x.count(7), 2);
        Check.due("undo", x.undo(), 1);
        Check.due("the second fork", x.count(0), 3);
        Check.due("undo", x.undo(), 0);
        Check.due("the first fork", x.count(0), 1);
    }

    static void promise35_numbers_givenLastIsAsItWas() {
        SpaceWarden x = Check.told("fork 0;");
        x.image();
        x.fork(0);
        x.fork(0);
        x.restore();
        x.fork(0);
        Check.due("number", x.number(2, 0), 3);
    }

    static void promise35_stays_tapeAndFault() {
        SpaceWarden x = new SpaceWarden();
        x.image();
        Check.tell(x, " no;");
        x.feed(0, 0, 0, 0, 0);
        x.restore();
        Check.due("tape", x.count(9), 20);
        Check.due("fault", x.fault(), 1);
    }

    static void promise35_false_isNoPartOfStatus() {
        SpaceWarden x = new SpaceWarden();
        x.restore();
        for (int what = 10; what <= 12; what++) {
            Check.due("count " + what, x.count(what), 0);
        }
    }
}
