/** Boundary cases of promises 16 to 21: fork, create, map, become, mount, share. */
public final class EdgesOfActsTest {
    private static final int LEAST = Integer.MIN_VALUE;
    private static final int GREATEST = Integer.MAX_VALUE;
    private static final String SIXTEEN = "fork 0;".repeat(15);
    /** No process of these is there in a world of processes 0 and 2, in which 1 has ended. */
    private static final int[] NO_PROCESS = {-1, 1, 3, 15, 16, 32, LEAST, GREATEST};
    private static final String HOLE = "fork 0; fork 0; end 1;";

    public static void main(String[] args) {
        Edges.run(EdgesOfActsTest.class, 16, 21);
    }

    // Promise 16: fork.

    static void promise16_tooSmallTooLarge_p() {
        for (int p : NO_PROCESS) {
            Edges.refuses(HOLE, x -> x.fork(p));
        }
    }

    static void promise16_full_theSixteenth() {
        Edges.does("fork 0;".repeat(14), x -> x.fork(0), 15);
    }

    static void promise16_full_seventeenth() {
        Edges.refuses(SIXTEEN, x -> x.fork(0));
        Edges.refuses(SIXTEEN, x -> x.fork(15));
    }

    static void promise16_full_roomAgainBehindAnEnd() {
        Edges.does(SIXTEEN + "end 7;", x -> x.fork(0), 7);
    }

    static void promise16_least_numberOfProcessesThatThereIsNot() {
        Edges.does("fork 0; fork 0; fork 0; end 3; end 1;", x -> x.fork(2), 1);
        Edges.does("fork 0; fork 0; fork 0; end 3;", x -> x.fork(2), 3);
    }

    static void promise16_dead_childrensSpace() {
        Edges.refuses("numbers 0; fork 0; end 1;", x -> x.fork(0));
    }

    static void promise16_dead_childrensSpaceThatWasEntered() {
        Edges.refuses("fork 0; numbers 0; fork 0; enter 1 2 numbers; end 2;", x -> x.fork(1));
    }

    static void promise16_dead_byTheEndOfOneAround() {
        Edges.refuses("fork 0; numbers 0; fork 0; numbers 2; fork 2; enter 1 3 numbers; end 2;", x -> x.fork(1));
    }

    static void promise16_dead_notForOneWithAnotherChildrensSpace() {
        Edges.does("fork 0; numbers 0; fork 0; end 2;", x -> x.fork(1), 2);
    }

    static void promise16_dead_notBackInItsOwn() {
        Edges.does("fork 0; numbers 0; fork 0; end 2; enter 0 1 numbers;", x -> x.fork(0), 2);
    }

    static void promise16_first_isTheInitOfNumber1() {
        SpaceWarden x = Edges.does("numbers 0;", y -> y.fork(0), 1);
        Check.due("number there", x.number(1, 1), 1);
        Check.due("init", x.space(0, 1, 4), 1);
    }

    static void promise16_first_secondHasNumber2() {
        SpaceWarden x = Edges.does("numbers 0; fork 0;", y -> y.fork(0), 2);
        Check.due("number there", x.number(2, 1), 2);
        Check.due("no init", x.process(2, 9), 0);
    }

    static void promise16_first_initOfOneWithinHasTheNextAround() {
        SpaceWarden x = Edges.does("fork 0; numbers 0; fork 0; numbers 2;", y -> y.fork(2), 3);
        Check.due("in its own", x.number(3, 2), 1);
        Check.due("around", x.number(3, 1), 2);
        Check.due("in the root", x.number(3, 0), 4);
    }

    static void promise16_late_endedOnesNumberIsNotTheNext() {
        SpaceWarden x = Edges.does("fork 0; fork 0; end 2;", y -> y.fork(0), 2);
        Check.due("number", x.number(2, 0), 4);
    }

    static void promise16_wrap_behind20Comes2() {
        SpaceWarden x = Check.told("fork 0; end 1;".repeat(18));
        x.fork(0);
        Check.due("20", x.number(1, 0), 20);
        x.end(1);
        x.fork(0);
        Check.due("behind 20", x.number(1, 0), 2);
    }

    static void promise16_wrap_numbersThatSomeoneHasArePassed() {
        // 1 has 2, 2 has 3; 4 to 20 have been given.
        SpaceWarden x = Check.told("fork 0; fork 0;" + "fork 0; end 3;".repeat(17));
        x.fork(0);
        Check.due("behind 20 the first that none has", x.number(3, 0), 4);
    }

    static void promise16_wrap_numberThatAProcessOfTheSameNumberHad() {
        // The former process 2 had 3; 4 to 20 have been given since, and 2 again.
        SpaceWarden x = Check.told("fork 0; fork 0; end 2; end 1;" + "fork 0; end 1;".repeat(17) + "fork 0;");
        Check.due("2 was given", x.number(1, 0), 2);
        Check.due("fork", x.fork(0), 2);
        Check.due("3 is nobody's", x.number(2, 0), 3);
    }

    static void promise16_wrap_1IsNotGivenAgain() {
        SpaceWarden x = Check.told("numbers 0; fork 0;" + "fork 0; end 2;".repeat(19));
        x.fork(0);
        Check.due("in space 1", x.number(2, 1), 2);
        Check.due("in the root, where someone has 2 and 3 was given", x.number(2, 0), 4);
    }

    static void promise16_wrap_eachSpaceByItself() {
        // In the root 20 has been given, in space 1 only up to 2.
        SpaceWarden x = Check.told("fork 0;" + "fork 0; end 2;".repeat(16) + "numbers 0; fork 0; fork 0;");
        Check.due("the init in the root", x.number(2, 0), 19);
        Check.due("the next in the root", x.number(3, 0), 20);
        x.fork(0);
        Check.due("behind it in the root", x.number(4, 0), 3);
        Check.due("in space 1", x.number(4, 1), 3);
    }

    static void promise16_full_aNumberIsFreeForEachOfSixteen() {
        SpaceWarden x = Check.told(SIXTEEN);
        int[] due = {17, 18, 19, 20, 16, 17, 18, 19, 20, 16};
        for (int number : due) {
            x.end(15);
            Check.due("fork", x.fork(0), 15);
            Check.due("number", x.number(15, 0), number);
        }
    }

    static void promise16_child_hasWhatItsParentHas() {
        SpaceWarden x = Check.told("fork 0; become 1 5; user 1; map 1 1 9 5 1; mounts 1; become 1 9;");
        Check.due("fork", x.fork(1), 2);
        int[] due = {1, 0, 1, 1, 0, 3, 5, 9, 0, 0};
        for (int what = 0; what < 10; what++) {
            Check.due("its " + what, x.process(2, what), due[what]);
        }
    }

    static void promise16_child_isInTheChildrensSpaceAndSoAreItsChildren() {
        SpaceWarden x = Check.told("numbers 0; fork 0; fork 1;");
        Check.due("its space", x.process(1, 1), 1);
        Check.due("its children's", x.process(1, 4), 1);
        Check.due("its child's", x.process(2, 1), 1);
    }

    static void promise16_child_powerOfOneThatEndedIsNotItsOwn() {
        SpaceWarden x = Check.told("fork 0; fork 0; become 1 5; end 2; fork 1;");
        Check.due("power", x.process(2, 8), 0);
        Check.due("ID", x.process(2, 6), 5);
    }

    // Promise 17: create.

    static void promise17_tooSmallTooLarge_kind() {
        for (int kind : new int[] {-1, 3, LEAST, GREATEST}) {
            Edges.refuses(HOLE, x -> x.create(0, kind));
        }
    }

    static void promise17_tooSmallTooLarge_p() {
        for (int kind = 0; kind < 3; kind++) {
            int of = kind;
            for (int p : NO_PROCESS) {
                Edges.refuses(HOLE, x -> x.create(p, of));
            }
        }
    }

    static void promise17_tooSmallTooLarge_pAndKind() {
        Edges.refuses(HOLE, x -> x.create(-1, -1));
        Edges.refuses(HOLE, x -> x.create(16, 3));
    }

    static void promise17_full_eighthUserSpace() {
        String seven = SIXTEEN + "user 1;user 2;user 3;user 4;user 5;user 6;";
        Edges.does(seven, x -> x.create(7, 1), 7);
        Edges.refuses(seven + "user 7;", x -> x.create(8, 1));
    }

    static void promise17_full_eighthNumberSpace() {
        String seven = SIXTEEN + "numbers 1;numbers 2;numbers 3;numbers 4;numbers 5;numbers 6;";
        Edges.does(seven, x -> x.create(7, 0), 7);
        Edges.refuses(seven + "numbers 7;", x -> x.create(8, 0));
    }

    static void promise17_full_eighthMountSpace() {
        String seven = SIXTEEN + "mounts 1;mounts 2;mounts 3;mounts 4;mounts 5;mounts 6;";
        Edges.does(seven, x -> x.create(7, 2), 7);
        Edges.refuses(seven + "mounts 7;", x -> x.create(8, 2));
    }

    static void promise17_full_deadSpacesCountOfTheEight() {
        StringBuilder text = new StringBuilder("fork 0;");
        for (int i = 0; i < 7; i++) {
            text.append("fork 1; numbers 2; fork 2; end 3; end 2;");
        }
        Edges.refuses(text.toString(), x -> x.create(0, 0));
    }

    static void promise17_full_oneKindDoesNotBarAnother() {
        String users = SIXTEEN + "user 1;user 2;user 3;user 4;user 5;user 6;user 7;";
        Edges.does(users, x -> x.create(8, 0), 1);
        Edges.does(users, x -> x.create(8, 2), 1);
        Edges.does(SIXTEEN + "mounts 1;mounts 2;mounts 3;mounts 4;mounts 5;mounts 6;mounts 7;", x -> x.create(8, 1), 1);
    }

    static void promise17_deep_usersFourNotFive() {
        Edges.does("user 0; user 0; user 0;", x -> x.create(0, 1), 4);
        Edges.refuses("user 0; user 0; user 0; user 0;", x -> x.create(0, 1));
    }

    static void promise17_deep_numbersFourNotFive() {
        String three = "numbers 0; fork 0; numbers 1; fork 1; numbers 2; fork 2;";
        Edges.does(three, x -> x.create(3, 0), 4);
        Edges.refuses(three + "numbers 3; fork 3;", x -> x.create(4, 0));
    }

    static void promise17_deep_mountsFourNotFive() {
        Edges.does("mounts 0; mounts 0; mounts 0;", x -> x.create(0, 2), 4);
        Edges.refuses("mounts 0; mounts 0; mounts 0; mounts 0;", x -> x.create(0, 2));
    }

    static void promise17_deep_anotherIsNotSoDeep() {
        Edges.does("fork 0; user 0; user 0; user 0; user 0;", x -> x.create(1, 1), 5);
        Edges.does("fork 0; mounts 0; mounts 0; mounts 0; mounts 0;", x -> x.create(1, 2), 5);
    }

    static void promise17_power_userNeedsNone() {
        SpaceWarden x = Edges.does("become 0 5;", y -> y.create(0, 1), 1);
        Check.due("with power", x.process(0, 8), 1);
        Check.due("owner", x.space(1, 1, 2), 5);
        Check.due("ID stays", x.process(0, 6), 5);
        Check.due("no ranges", x.space(1, 1, 4), 0);
    }

    static void promise17_power_numbersNeedIt() {
        Edges.refuses("become 0 5;", x -> x.create(0, 0));
    }

    static void promise17_power_mountsNeedIt() {
        Edges.refuses("become 0 5;", x -> x.create(0, 2));
    }

    static void promise17_power_thatOfANewUserSpaceIsEnough() {
        Edges.does("become 0 5; user 0;", x -> x.create(0, 0), 1);
        Edges.does("become 0 5; user 0;", x -> x.create(0, 2), 1);
    }

    static void promise17_numbers_notIfItsChildrensIsAnother() {
        Edges.refuses("numbers 0;", x -> x.create(0, 0));
        Edges.refuses("fork 0; numbers 0; fork 0; enter 1 2 numbers;", x -> x.create(1, 0));
    }

    static void promise17_numbers_againIfItsChildrensIsItsOwnAgain() {
        Edges.does("fork 0; numbers 0; enter 0 1 numbers;", x -> x.create(0, 0), 2);
    }

    static void promise17_numbers_makerIsNotInIt() {
        SpaceWarden x = Edges.does("", y -> y.create(0, 0), 1);
        Check.due("its space", x.process(0, 1), 0);
        Check.due("its children's", x.process(0, 4), 1);
    }

    static void promise17_mounts_copyOfAllEightPlaces() {
        SpaceWarden x = Edges.does("mount 0 0 11; mount 0 3 22; mount 0 7 33;", y -> y.create(0, 2), 1);
        int[] due = {11, 0, 0, 22, 0, 0, 0, 33};
        for (int place = 0; place < 8; place++) {
            Check.due("place " + place, x.mounted(1, place), due[place]);
        }
        Check.due("it is in it", x.process(0, 3), 1);
    }

    static void promise17_mounts_notSharedAtFirst() {
        SpaceWarden x = Edges.does("share 0;", y -> y.create(0, 2), 1);
        Check.due("the new one", x.space(2, 1, 5), 0);
        Check.due("its parent", x.space(2, 0, 5), 1);
    }

    // Promise 18: map.

    private static final String OWNER_4 = "fork 0; become 1 4; user 1; fork 0; become 2 4; fork 0; become 3 5;";

    static void promise18_tooSmallTooLarge_p() {
        for (int p : NO_PROCESS) {
            Edges.refuses(HOLE + "user 2;", x -> x.map(p, 1, 0, 0, 1));
        }
    }

    static void promise18_root_hasNoRanges() {
        Edges.refuses(OWNER_4, x -> x.map(0, 0, 50, 50, 1));
    }

    static void promise18_tooSmallTooLarge_space() {
        for (int space : new int[] {-1, 2, 7, 8, LEAST, GREATEST}) {
            Edges.refuses(OWNER_4, x -> x.map(0, space, 0, 0, 1));
        }
    }

    static void promise18_tooSmall_many0() {
        for (int many : new int[] {0, -1, LEAST}) {
            Edges.refuses(OWNER_4, x -> x.map(0, 1, 0, 0, many));
        }
    }

    static void promise18_least_many1() {
        Edges.does(OWNER_4, x -> x.map(0, 1, 0, 0, 1), 1);
    }

    static void promise18_tooLarge_many100() {
        for (int many : new int[] {100, 101, GREATEST}) {
            Edges.refuses(OWNER_4, x -> x.map(0, 1, 0, 0, many));
        }
    }

    static void promise18_greatest_many99() {
        Edges.does(OWNER_4, x -> x.map(0, 1, 0, 0, 99), 1);
        Edges.does(OWNER_4, x -> x.map(0, 1, 1, 1, 99), 1);
    }

    static void promise18_tooSmall_insideBelow0() {
        Edges.refuses(OWNER_4, x -> x.map(0, 1, -1, 0, 1));
        Edges.refuses(OWNER_4, x -> x.map(0, 1, -1, 0, 2));
        Edges.refuses(OWNER_4, x -> x.map(0, 1, LEAST, 0, 1));
    }

    static void promise18_tooLarge_insideOf100() {
        Edges.refuses(OWNER_4, x -> x.map(0, 1, 100, 0, 1));
        Edges.refuses(OWNER_4, x -> x.map(0, 1, GREATEST, 0, 1));
    }

    static void promise18_tooLarge_insideBeyond99() {
        Edges.refuses(OWNER_4, x -> x.map(0, 1, 99, 0, 2));
        Edges.refuses(OWNER_4, x -> x.map(0, 1, 2, 0, 99));
    }

    static void promise18_greatest_insideUpTo99() {
        SpaceWarden x = Edges.does(OWNER_4, y -> y.map(0, 1, 98, 0, 2), 1);
        Check.due("99", x.outside(1, 99), 1);
        Edges.does(OWNER_4, y -> y.map(0, 1, 99, 0, 1), 1);
    }

    static void promise18_tooSmall_outsideBelow0() {
        Edges.refuses(OWNER_4, x -> x.map(0, 1, 0, -1, 1));
        Edges.refuses(OWNER_4, x -> x.map(0, 1, 0, -1, 2));
        Edges.refuses(OWNER_4, x -> x.map(0, 1, 0, LEAST, 1));
    }

    static void promise18_tooLarge_outsideOf100() {
        Edges.refuses(OWNER_4, x -> x.map(0, 1, 0, 100, 1));
        Edges.refuses(OWNER_4, x -> x.map(0, 1, 0, Edges.NOBODY, 1));
        Edges.refuses(OWNER_4, x -> x.map(0, 1, 0, GREATEST, 1));
    }

    static void promise18_tooLarge_outsideBeyond99() {
        Edges.refuses(OWNER_4, x -> x.map(0, 1, 0, 99, 2));
        Edges.refuses(OWNER_4, x -> x.map(0, 1, 0, 2, 99));
    }

    static void promise18_greatest_outsideUpTo99() {
        SpaceWarden x = Edges.does(OWNER_4, y -> y.map(0, 1, 0, 98, 2), 1);
        Check.due("99", x.inside(1, 99), 1);
        Edges.does(OWNER_4, y -> y.map(0, 1, 0, 99, 1), 1);
    }

    /** One range is there: 10 to 14 are 30 to 34. */
    private static final String RANGE = OWNER_4 + "map 0 1 10 30 5;";

    static void promise18_common_insideItsFirstAndItsLast() {
        Edges.refuses(RANGE, x -> x.map(0, 1, 10, 60, 1));
        Edges.refuses(RANGE, x -> x.map(0, 1, 14, 60, 1));
        Edges.refuses(RANGE, x -> x.map(0, 1, 14, 60, 5));
        Edges.refuses(RANGE, x -> x.map(0, 1, 6, 60, 5));
    }

    static void promise18_common_outsideItsFirstAndItsLast() {
        Edges.refuses(RANGE, x -> x.map(0, 1, 60, 30, 1));
        Edges.refuses(RANGE, x -> x.map(0, 1, 60, 34, 1));
        Edges.refuses(RANGE, x -> x.map(0, 1, 60, 34, 5));
        Edges.refuses(RANGE, x -> x.map(0, 1, 60, 26, 5));
    }

    static void promise18_common_roundARangeOrWithinIt() {
        Edges.refuses(RANGE, x -> x.map(0, 1, 9, 60, 7));
        Edges.refuses(RANGE, x -> x.map(0, 1, 12, 60, 1));
        Edges.refuses(RANGE, x -> x.map(0, 1, 60, 29, 7));
        Edges.refuses(RANGE, x -> x.map(0, 1, 60, 32, 1));
    }

    static void promise18_common_noneRightAheadOfItAndBehindIt() {
        Edges.does(RANGE, x -> x.map(0, 1, 5, 25, 5), 2);
        Edges.does(RANGE, x -> x.map(0, 1, 15, 35, 5), 2);
    }

    static void promise18_common_insideOfOneIsOutsideOfAnother() {
        Edges.does(RANGE, x -> x.map(0, 1, 30, 10, 5), 2);
    }

    static void promise18_common_withTheSecondAndTheThird() {
        Edges.refuses(RANGE + "map 0 1 50 50 5;", x -> x.map(0, 1, 54, 80, 1));
        Edges.refuses(RANGE + "map 0 1 50 50 5;", x -> x.map(0, 1, 80, 54, 1));
    }

    static void promise18_common_rangesOfOtherSpacesDoNotCount() {
        Edges.does(RANGE + "user 3;", x -> x.map(0, 2, 10, 30, 5), 1);
    }

    static void promise18_full_thirdRange() {
        Edges.does(RANGE + "map 0 1 0 0 1;", x -> x.map(0, 1, 1, 1, 1), 3);
    }

    static void promise18_full_threeRangesBesideAFullSpace() {
        // User spaces 1 and 3 have three ranges each; those of 2 between them are its own.
        SpaceWarden x = Check.told("fork 0; fork 0; fork 0; user 1; user 2; user 3; map 0 1 90 0 1; map 0 1 91 1 1;"
            + "map 0 1 92 2 1; map 0 3 0 0 1; map 0 3 1 1 1; map 0 3 2 2 1; map 0 2 50 5 1; map 0 2 40 6 1;");
        Check.due("the third", x.map(0, 2, 30, 7, 1), 3);
        int[][] due = {{90, 91, 92}, {30, 40, 50}, {0, 1, 2}};
        for (int space = 1; space <= 3; space++) {
            for (int i = 0; i < 3; i++) {
                Check.due("inside of " + space + ", " + i, x.range(space, i, 0), due[space - 1][i]);
            }
        }
    }

    static void promise18_full_fourthRange() {
        Edges.refuses(RANGE + "map 0 1 0 0 1; map 0 1 1 1 1;", x -> x.map(0, 1, 2, 2, 1));
    }

    /** User space 2 in 1, of which 10 to 14 are someone, and 50 who is 4. */
    private static final String INNER = RANGE + "map 0 1 50 4 1; user 1;";

    static void promise18_nobody_firstOrLastOutsideIsNoOne() {
        Edges.refuses(INNER, x -> x.map(0, 2, 0, 9, 5));
        Edges.refuses(INNER, x -> x.map(0, 2, 0, 11, 5));
        Edges.refuses(INNER, x -> x.map(0, 2, 0, 9, 1));
        Edges.refuses(INNER, x -> x.map(0, 2, 0, 15, 1));
    }

    static void promise18_nobody_allOutsideAreSomeone() {
        Edges.does(INNER, x -> x.map(0, 2, 0, 10, 5), 1);
    }

    static void promise18_nobody_overTwoRangesThatMeet() {
        Edges.does(RANGE + "map 0 1 15 80 5; user 1;", x -> x.map(0, 2, 0, 10, 10), 1);
        Edges.refuses(RANGE + "map 0 1 15 80 5; user 1;", x -> x.map(0, 2, 0, 10, 11));
    }

    static void promise18_nobody_aHoleBetweenTwoRanges() {
        Edges.refuses(RANGE + "map 0 1 16 80 5; user 1;", x -> x.map(0, 2, 0, 10, 10));
    }

    static void promise18_nobody_parentWithoutRanges() {
        Edges.refuses("fork 0; user 1; user 1;", x -> x.map(0, 2, 0, 0, 1));
    }

    static void promise18_owner_oneInIt() {
        Edges.does(OWNER_4, x -> x.map(1, 1, 77, 4, 1), 1);
    }

    static void promise18_owner_oneOutsideWithoutPower() {
        Edges.does(OWNER_4, x -> x.map(2, 1, 77, 4, 1), 1);
    }

    static void promise18_owner_notMoreThanOne() {
        Edges.refuses(OWNER_4, x -> x.map(1, 1, 77, 4, 2));
        Edges.refuses(OWNER_4, x -> x.map(2, 1, 77, 4, 2));
    }

    static void promise18_owner_notAnotherOutsideThanItsId() {
        Edges.refuses(OWNER_4, x -> x.map(1, 1, 77, 3, 1));
        Edges.refuses(OWNER_4, x -> x.map(2, 1, 77, 5, 1));
    }

    static void promise18_owner_notAnotherIdThanTheOwners() {
        Edges.refuses(OWNER_4, x -> x.map(3, 1, 77, 5, 1));
        Edges.refuses(OWNER_4, x -> x.map(3, 1, 77, 4, 1));
    }

    static void promise18_owner_itsIdAsTheParentTells() {
        Edges.does(INNER, x -> x.map(1, 2, 0, 50, 1), 1);
        Edges.refuses(INNER, x -> x.map(1, 2, 0, 10, 1));
    }

    static void promise18_owner_notItsIdAsTheRootTells() {
        Edges.refuses(RANGE + "map 0 1 50 4 1; map 0 1 4 9 1; user 1;", x -> x.map(1, 2, 0, 4, 1));
    }

    static void promise18_owner_nobodyInTheParent() {
        Edges.refuses("fork 0; become 1 4; user 1; user 1;", x -> x.map(1, 2, 0, 4, 1));
        Edges.refuses("fork 0; become 1 4; user 1; map 0 1 4 9 1; user 1;", x -> x.map(1, 2, 0, 4, 1));
    }

    static void promise18_power_overTheParentByBeingInIt() {
        Edges.does(RANGE + "fork 1; user 1;", x -> x.map(4, 2, 0, 10, 5), 1);
        Edges.does(RANGE + "fork 1; user 1; enter 0 4 user;", x -> x.map(0, 2, 0, 10, 5), 1);
    }

    static void promise18_power_overTheParentByOwningIt() {
        Edges.does(INNER, x -> x.map(2, 2, 0, 10, 5), 1);
    }

    static void promise18_power_overTheSpaceIsNotEnough() {
        // 1 has power in user space 2, and over it, but not over 1.
        Edges.refuses(INNER, x -> x.map(1, 2, 0, 10, 5));
    }

    static void promise18_power_overTheParentWithoutSeeingAnyone() {
        Edges.does("numbers 0; fork 0; user 0;", x -> x.map(1, 1, 0, 0, 9), 1);
    }

    // Promise 19: become.

    /** User space 1: 0 to 4 are 20 to 24, 9 is 0. */
    private static final String BECOMING = "fork 0; user 1; map 0 1 0 20 5; map 0 1 9 0 1;";

    static void promise19_tooSmallTooLarge_p() {
        for (int p : NO_PROCESS) {
            Edges.refuses(HOLE, x -> x.become(p, 0));
        }
    }

    static void promise19_tooSmall_idBelow0() {
        Edges.refuses(BECOMING, x -> x.become(0, -1));
        Edges.refuses(BECOMING, x -> x.become(1, -1));
        Edges.refuses(BECOMING, x -> x.become(0, LEAST));
    }

    static void promise19_tooLarge_idOf100() {
        Edges.refuses(BECOMING, x -> x.become(0, 100));
        Edges.refuses(BECOMING, x -> x.become(0, Edges.NOBODY));
        Edges.refuses(BECOMING, x -> x.become(1, Edges.NOBODY));
        Edges.refuses(BECOMING, x -> x.become(0, GREATEST));
    }

    static void promise19_greatest_idOf99() {
        SpaceWarden x = Edges.does(BECOMING, y -> y.become(0, 99), 99);
        Check.due("ID", x.process(0, 6), 99);
    }

    static void promise19_nobody_notSomeoneAtTheRoot() {
        Edges.refuses(BECOMING, x -> x.become(1, 5));
        Edges.refuses(BECOMING, x -> x.become(1, 8));
        Edges.refuses(BECOMING, x -> x.become(1, 10));
        Edges.refuses(BECOMING, x -> x.become(1, 20));
    }

    static void promise19_nobody_spaceWithoutRanges() {
        Edges.refuses("user 0;", x -> x.become(0, 0));
    }

    static void promise19_last_ofARange() {
        Edges.does(BECOMING, x -> x.become(1, 4), 24);
    }

    static void promise19_power_notWithoutIt() {
        Edges.refuses("become 0 5;", x -> x.become(0, 5));
        Edges.refuses("become 0 5;", x -> x.become(0, 0));
    }

    static void promise19_power_notThatOverTheSpaceAlone() {
        // The owner outside has power over user space 1, but none of its own.
        Edges.refuses("fork 0; become 1 7; fork 1; user 2;", x -> x.become(1, 0));
    }

    static void promise19_power_lostByAnIdOf1() {
        SpaceWarden x = Edges.does("", y -> y.become(0, 1), 1);
        Check.due("power", x.process(0, 8), 0);
    }

    static void promise19_power_keptByIdZero() {
        SpaceWarden x = Edges.does("", y -> y.become(0, 0), 0);
        Check.due("power", x.process(0, 8), 1);
    }

    /** Words: the ID of the call is 0, not what it is at the root. */
    static void promise19_power_keptByTheSpacesZero() {
        SpaceWarden x = Edges.does(BECOMING, y -> y.become(1, 0), 20);
        Check.due("ID", x.process(1, 6), 20);
        Check.due("power", x.process(1, 8), 1);
    }

    static void promise19_power_lostByTheRootsZeroThatIsAnotherThere() {
        SpaceWarden x = Edges.does(BECOMING, y -> y.become(1, 9), 0);
        Check.due("ID", x.process(1, 6), 0);
        Check.due("power", x.process(1, 8), 0);
    }

    // Promise 20: mount.

    static void promise20_tooSmallTooLarge_p() {
        for (int p : NO_PROCESS) {
            Edges.refuses(HOLE, x -> x.mount(p, 0, 1));
        }
    }

    static void promise20_tooSmallTooLarge_place() {
        for (int place : new int[] {-1, 8, LEAST, GREATEST}) {
            Edges.refuses("mounts 0; mount 0 0 5;", x -> x.mount(0, place, 1));
        }
    }

    static void promise20_first_place0AndLast7() {
        Edges.does("", x -> x.mount(0, 0, 1), 0);
        Edges.does("", x -> x.mount(0, 7, 1), 0);
    }

    static void promise20_tooSmallTooLarge_thing() {
        for (int thing : new int[] {-1, 100, LEAST, GREATEST}) {
            Edges.refuses("mount 0 0 5;", x -> x.mount(0, 0, thing));
        }
    }

    static void promise20_greatest_thing99() {
        SpaceWarden x = Edges.does("", y -> y.mount(0, 0, 99), 0);
        Check.due("it is there", x.mounted(0, 0), 99);
    }

    static void promise20_empty_nothingInPlaceOfAThing() {
        SpaceWarden x = Edges.does("mount 0 0 5;", y -> y.mount(0, 0, 0), 5);
        Check.due("nothing", x.mounted(0, 0), 0);
    }

    static void promise20_empty_nothingWhereNothingIs() {
        Edges.refuses("", x -> x.mount(0, 0, 0));
    }

    static void promise20_same_itIsSoAlready() {
        Edges.refuses("mount 0 0 5;", x -> x.mount(0, 0, 5));
    }

    static void promise20_same_asAtAnotherPlaceIsFine() {
        Edges.does("mount 0 0 5;", x -> x.mount(0, 1, 5), 0);
    }

    static void promise20_same_inItsOwnThoughNotWhereItSpreads() {
        Edges.refuses("share 0; fork 0; mounts 1; mount 0 0 5; mount 1 0 6;", x -> x.mount(0, 0, 5));
    }

    static void promise20_same_whereItSpreadsThoughNotInItsOwn() {
        SpaceWarden x = Edges.does("fork 0; mounts 1; mount 1 0 6; mount 0 0 5; share 0;", y -> y.mount(0, 0, 6), 5);
        Check.due("in its own", x.mounted(0, 0), 6);
        Check.due("there", x.mounted(1, 0), 6);
    }

    static void promise20_power_notWithoutIt() {
        Edges.refuses("become 0 5;", x -> x.mount(0, 0, 1));
    }

    static void promise20_power_notInAUserSpaceInTheKeeper() {
        Edges.refuses("user 0;", x -> x.mount(0, 0, 1));
    }

    static void promise20_power_inTheKeeper() {
        Edges.does("become 0 5; user 0; mounts 0;", x -> x.mount(0, 0, 1), 0);
    }

    static void promise20_power_byOwningTheKeeperWithoutPower() {
        // 0 comes into the mount space by its power, then loses that: it owns the keeper.
        Edges.does("fork 0; become 1 7; fork 1; user 2; mounts 2; enter 0 2 mounts; become 0 7;",
            x -> x.mount(0, 0, 1), 0);
    }

    static void promise20_spreads_notIfNotShared() {
        SpaceWarden x = Edges.does("fork 0; mounts 1;", y -> y.mount(0, 0, 1), 0);
        Check.due("within", x.mounted(1, 0), 0);
    }

    static void promise20_spreads_notOutward() {
        SpaceWarden x = Edges.does("share 0; fork 0; mounts 1; share 1;", y -> y.mount(1, 0, 1), 0);
        Check.due("outward", x.mounted(0, 0), 0);
    }

    static void promise20_spreads_onFromSharedOnesAlone() {
        SpaceWarden x = Edges.does("share 0; fork 0; mounts 1; fork 1; mounts 2; fork 0; mounts 3; share 3; fork 3; mounts 4;",
            y -> y.mount(0, 7, 9), 0);
        int[] due = {9, 9, 0, 9, 9};
        for (int space = 0; space < 5; space++) {
            Check.due("in " + space, x.mounted(space, 7), due[space]);
        }
    }

    static void promise20_spreads_whatWasThereInItsOwnIsTheAnswer() {
        Edges.does("fork 0; mounts 1; mount 1 0 6; share 0; mount 0 1 3;", x -> x.mount(0, 0, 7), 0);
    }

    // Promise 21: share.

    static void promise21_tooSmallTooLarge_p() {
        for (int p : NO_PROCESS) {
            Edges.refuses(HOLE, x -> x.share(p));
        }
    }

    static void promise21_first_isShared() {
        SpaceWarden x = Edges.does("", y -> y.share(0), 1);
        Check.due("shared", x.space(2, 0, 5), 1);
    }

    static void promise21_again_isNotAnyMore() {
        SpaceWarden x = Edges.does("share 0;", y -> y.share(0), 0);
        Check.due("shared", x.space(2, 0, 5), 0);
    }

    static void promise21_again_bySomeoneElseInIt() {
        Edges.does("share 0; fork 0;", x -> x.share(1), 0);
    }

    static void promise21_part_itsOwnSpaceAlone() {
        SpaceWarden x = Edges.does("fork 0; mounts 1; fork 1; mounts 2;", y -> y.share(1), 1);
        Check.due("its parent", x.space(2, 0, 5), 0);
        Check.due("itself", x.space(2, 1, 5), 1);
        Check.due("within", x.space(2, 2, 5), 0);
    }

    static void promise21_power_notWithoutIt() {
        Edges.refuses("become 0 5;", x -> x.share(0));
        Edges.refuses("share 0; become 0 5;", x -> x.share(0));
    }

    static void promise21_power_notInAUserSpaceInTheKeeper() {
        Edges.refuses("user 0;", x -> x.share(0));
    }

    static void promise21_power_byOwningTheKeeperWithoutPower() {
        Edges.does("fork 0; become 1 7; fork 1; user 2; mounts 2; enter 0 2 mounts; become 0 7;", x -> x.share(0), 1);
    }

    static void promise21_last_mountSpace7() {
        SpaceWarden x = Edges.does(SIXTEEN + "mounts 1;mounts 2;mounts 3;mounts 4;mounts 5;mounts 6;mounts 7;",
            y -> y.share(7), 1);
        Check.due("shared", x.space(2, 7, 5), 1);
        Check.due("6 isn't", x.space(2, 6, 5), 0);
    }
}
