/** Boundary cases of promises 1 to 4: a new object, feed, spaces, fault. */
public final class EdgesOfTextsTest {
    private static final String SIXTY = "end 0;".repeat(60);

    /** Each clause with the greatest numbers that can stand in it. */
    private static final String[] CLAUSES = {"fork 15;", "user 15;", "numbers 15;", "mounts 15;", "map 15 7 99 99 99;",
        "become 15 99;", "mount 15 7 99;", "enter 15 15 user;", "enter 15 15 numbers;", "enter 15 15 mounts;", "end 15;",
        "kill 15 15;", "share 15;"};

    public static void main(String[] args) {
        Edges.run(EdgesOfTextsTest.class, 1, 4);
    }

    // Promise 1: at first there is process 0 alone, in the roots.

    static void promise01_first_processZeroAlone() {
        SpaceWarden x = new SpaceWarden();
        Check.due("processes", x.count(0), 1);
        Check.due("how many", x.count(1), 1);
        Check.noSuch("process 1", () -> x.process(1, 0));
    }

    static void promise01_first_oneSpaceOfEachKind() {
        SpaceWarden x = new SpaceWarden();
        for (int kind = 0; kind < 3; kind++) {
            int of = kind;
            Check.due("how many of kind " + kind, x.count(2 + kind), 1);
            Check.noSuch("space 1 of kind " + kind, () -> x.space(of, 1, 0));
        }
    }

    static void promise01_first_rootsHaveNoParent() {
        SpaceWarden x = new SpaceWarden();
        for (int kind = 0; kind < 3; kind++) {
            Check.due("parent of the root of kind " + kind, x.space(kind, 0, 0), Edges.NONE);
            Check.due("its depth", x.space(kind, 0, 1), 0);
        }
    }

    static void promise01_first_keeperOfRootsIsUserSpaceZero() {
        SpaceWarden x = new SpaceWarden();
        for (int kind = 0; kind < 3; kind++) {
            Check.due("keeper of the root of kind " + kind, x.space(kind, 0, 2), 0);
        }
    }

    static void promise01_first_processZeroIsItsOwnParent() {
        Check.due("parent", new SpaceWarden().process(0, 0), 0);
    }

    static void promise01_first_processZeroIsInTheRoots() {
        SpaceWarden x = new SpaceWarden();
        Check.due("number space", x.process(0, 1), 0);
        Check.due("user space", x.process(0, 2), 0);
        Check.due("mount space", x.process(0, 3), 0);
        Check.due("children's space", x.process(0, 4), 0);
    }

    static void promise01_first_processZeroIsTheInit() {
        SpaceWarden x = new SpaceWarden();
        Check.due("its number", x.process(0, 5), 1);
        Check.due("an init", x.process(0, 9), 1);
        Check.due("the root's init", x.space(0, 0, 4), 0);
    }

    static void promise01_first_idZeroWithPower() {
        SpaceWarden x = new SpaceWarden();
        Check.due("ID at the root", x.process(0, 6), 0);
        Check.due("ID there", x.process(0, 7), 0);
        Check.due("power", x.process(0, 8), 1);
        Check.due("with power", x.count(6), 1);
    }

    static void promise01_empty_nothingAtPlaces0To7() {
        SpaceWarden x = new SpaceWarden();
        for (int place = 0; place < 8; place++) {
            Check.due("place " + place, x.mounted(0, place), 0);
        }
        Check.due("places with a thing", x.space(2, 0, 4), 0);
    }

    static void promise01_empty_rootIsNotShared() {
        Check.due("shared", new SpaceWarden().space(2, 0, 5), 0);
    }

    static void promise01_empty_noNumberSpaceIsDead() {
        Check.due("dead", new SpaceWarden().count(5), 0);
    }

    static void promise01_empty_nothingKeptNotedTapedOrRefused() {
        SpaceWarden x = new SpaceWarden();
        for (int what = 7; what <= 12; what++) {
            Check.due("count " + what, x.count(what), 0);
        }
    }

    static void promise01_empty_noFaultNoActNoImage() {
        SpaceWarden x = new SpaceWarden();
        Check.due("fault", x.fault(), Edges.NONE);
        Check.due("undo", x.undo(), Edges.NONE);
        Check.no("restore", x.restore());
    }

    static void promise01_empty_asATextWithoutActsTells() {
        String told = Edges.state(Check.told(" \n "));
        Edges.same("a new object", told, Edges.state(new SpaceWarden()));
    }

    /** An object is used for at most 512 calls: the last of these is answered as the others are. */
    static void promise01_last_the512thCall() {
        SpaceWarden x = new SpaceWarden();
        for (int call = 1; call <= 510; call++) {
            Check.due("share, call " + call, x.share(0), call % 2);
        }
        Check.due("undo, call 511", x.undo(), 39);
        Check.due("shared, call 512", x.space(2, 0, 5), 1);
    }

    // Promise 2: twenty bytes come behind the tape; none, if it would have more than 900.

    private static SpaceWarden full() {
        SpaceWarden x = new SpaceWarden();
        Check.tape(x, " ".repeat(893) + "fork 0;");
        return x;
    }

    static void promise02_empty_theFirstTwenty() {
        Check.due("feed", new SpaceWarden().feed(0, 0, 0, 0, 0), 20);
    }

    static void promise02_full_900BytesStillCome() {
        SpaceWarden x = new SpaceWarden();
        for (int i = 1; i <= 44; i++) {
            Check.due("feed " + i, x.feed(0, 0, 0, 0, 0), 20 * i);
        }
        Check.due("feed 45", x.feed(0, 0, 0, 0, 0), 900);
    }

    static void promise02_full_beyond900None() {
        Check.due("feed", full().feed(0, 0, 0, 0, 0), Edges.NONE);
    }

    static void promise02_full_beyond900NoneComeAndAllStay() {
        SpaceWarden x = full();
        x.feed(-1, -1, -1, -1, -1);
        Check.due("bytes", x.count(9), 900);
        Check.due("its text", x.spaces(900), 0);
        Check.due("as it was fed", x.count(0), 3);
    }

    static void promise02_full_beyond900AgainAndAgain() {
        SpaceWarden x = full();
        x.feed(0, 0, 0, 0, 0);
        Check.due("once more", x.feed(0, 0, 0, 0, 0), Edges.NONE);
        Check.due("bytes", x.count(9), 900);
    }

    static void promise02_refused_isNoPartOfStatus() {
        SpaceWarden x = full();
        x.feed(0, 0, 0, 0, 0);
        for (int what = 10; what <= 12; what++) {
            Check.due("count " + what, x.count(what), 0);
        }
    }

    static void promise02_full_emptyBehindSpaces() {
        SpaceWarden x = full();
        x.spaces(900);
        Check.due("feed", x.feed(0, 0, 0, 0, 0), 20);
    }

    static void promise02_order_highestByteFirst() {
        SpaceWarden x = new SpaceWarden();
        x.feed(0x666f726b, 0x20303b20, 0x20202020, 0x20202020, 0x20202020);
        Check.due("spaces of \"fork 0; \"", x.spaces(20), 0);
        Check.due("processes", x.count(0), 3);
    }

    static void promise02_order_eachNumberInItsTurn() {
        for (int at = 0; at < 5; at++) {
            SpaceWarden x = new SpaceWarden();
            int[] w = new int[5];
            for (int i = 0; i < 5; i++) {
                w[i] = i == at ? 0x20202058 : 0x20202020;
            }
            x.feed(w[0], w[1], w[2], w[3], w[4]);
            x.spaces(20);
            Check.due("the place of number " + at + "'s last byte", x.fault(), 4 * at + 3);
        }
    }

    static void promise02_order_behindWhatIsThere() {
        SpaceWarden x = new SpaceWarden();
        Check.tape(x, " ".repeat(18) + "fork 0;");
        Check.due("a word over two feeds", x.spaces(40), 0);
        Check.due("processes", x.count(0), 3);
    }

    static void promise02_extremes_bytesAbove127() {
        for (int at = 0; at < 4; at++) {
            SpaceWarden x = new SpaceWarden();
            // A blank with its highest bit set is no blank.
            x.feed(0x20202020 | 0x80 << 24 - 8 * at, 0x20202020, 0x20202020, 0x20202020, 0x20202020);
            Check.due("a byte above 127 is no token", x.spaces(20), 1);
            Check.due("its place", x.fault(), at);
        }
    }

    // Promise 3: the tape's first n bytes are a text.

    static void promise03_tooSmall_nBelow0() {
        SpaceWarden x = full();
        Check.illegal("spaces(-1)", () -> x.spaces(-1));
        Check.illegal("spaces of the least int", () -> x.spaces(Integer.MIN_VALUE));
    }

    static void promise03_tooLarge_nOneBeyondTheTape() {
        SpaceWarden x = new SpaceWarden();
        Check.tape(x, "fork 0;");
        Check.illegal("spaces(21) of 20", () -> x.spaces(21));
        Check.illegal("spaces of the greatest int", () -> x.spaces(Integer.MAX_VALUE));
    }

    static void promise03_tooLarge_nOf901() {
        SpaceWarden x = full();
        Check.illegal("spaces(901)", () -> x.spaces(901));
    }

    static void promise03_tooLarge_emptyTapeHasNotOne() {
        SpaceWarden x = new SpaceWarden();
        Check.illegal("spaces(1)", () -> x.spaces(1));
    }

    static void promise03_refused_illegalNChangesNothing() {
        for (int n : new int[] {-1, 21}) {
            SpaceWarden x = Check.told("fork 0; user 1;");
            x.fork(1);
            x.image();
            x.note(0, 2, true);
            Check.tell(x, "no;");
            Check.tape(x, "fork 0;fork 0;");
            String before = Edges.state(x);
            Check.illegal("spaces", () -> x.spaces(n));
            Edges.same("nothing changes", before, Edges.state(x));
            Check.due("STATUS 0", x.count(10), 1);
            Check.due("fault", x.fault(), 0);
            Check.due("the tape's text", x.spaces(14), 0);
            Check.due("its acts", x.count(0), 7);
        }
    }

    static void promise03_refused_illegalNLeavesTheImage() {
        SpaceWarden x = Check.told("fork 0;");
        x.image();
        x.fork(0);
        Check.illegal("spaces", () -> x.spaces(-1));
        Check.yes("the image", x.restore());
        Check.due("as it was", x.count(0), 3);
    }

    static void promise03_empty_nOf0OfAnEmptyTape() {
        SpaceWarden x = new SpaceWarden();
        x.fork(0);
        Check.due("spaces(0)", x.spaces(0), 0);
        Check.due("all anew", x.count(0), 1);
    }

    static void promise03_empty_nOf0OfAFullTape() {
        SpaceWarden x = full();
        Check.due("spaces(0)", x.spaces(0), 0);
        Check.due("no act", x.count(0), 1);
        Check.due("the tape is empty", x.count(9), 0);
    }

    static void promise03_full_nIsTheWholeTape() {
        SpaceWarden x = new SpaceWarden();
        Check.tape(x, " ".repeat(13) + "fork 0;");
        Check.due("spaces(20) of 20", x.spaces(20), 0);
        Check.due("the last byte is read", x.count(0), 3);
    }

    static void promise03_full_textOf900Bytes() {
        SpaceWarden x = full();
        Check.due("spaces(900)", x.spaces(900), 0);
        Check.due("the last byte is read", x.count(0), 3);
        Check.due("the tape is empty", x.count(9), 0);
    }

    static void promise03_part_bytesBehindNAreNotRead() {
        SpaceWarden x = new SpaceWarden();
        Check.tape(x, "fork 0;fork 0;");
        Check.due("spaces(7)", x.spaces(7), 0);
        Check.due("one fork", x.count(0), 3);
    }

    static void promise03_part_bytesBehindNEndNoToken() {
        SpaceWarden x = new SpaceWarden();
        Check.tape(x, "fork 155;");
        Check.due("the number is 15, then it ends", x.spaces(7), 1);
        Check.due("at the text's length", x.fault(), 7);
    }

    static void promise03_part_tapeIsEmptyThen() {
        SpaceWarden x = new SpaceWarden();
        Check.tape(x, "fork 0;fork 0;");
        x.spaces(7);
        Check.due("bytes", x.count(9), 0);
        Check.illegal("none is left", () -> x.spaces(1));
    }

    static void promise03_refused_tapeIsEmptyBehindAFault() {
        SpaceWarden x = new SpaceWarden();
        Check.tape(x, "no;fork 0;");
        Check.due("spaces", x.spaces(3), 1);
        Check.due("bytes", x.count(9), 0);
    }

    static void promise03_refused_faultLeavesAllButStatus() {
        SpaceWarden x = Check.told("fork 0; user 1; mount 0 1 2;");
        x.fork(1);
        x.note(0, 2, true);
        String before = Edges.state(x);
        Check.due("spaces", Check.tell(x, "no;"), 1);
        Edges.same("all stays", before, Edges.state(x));
        Check.due("STATUS 0", x.count(10), 1);
        Check.due("STATUS 1", x.count(11), 0);
        Check.due("STATUS 2", x.count(12), 0);
    }

    static void promise03_refused_faultOf2CountsToo() {
        SpaceWarden x = new SpaceWarden();
        Check.due("spaces", Check.tell(x, "fork 16;"), 2);
        Check.due("STATUS 0", x.count(10), 1);
        Check.due("once more", Check.tell(x, "fork 16;"), 2);
        Check.due("STATUS 0", x.count(10), 2);
    }

    static void promise03_refused_actsAheadOfTheFaultAreNotDone() {
        SpaceWarden x = Check.told("fork 0;");
        Check.due("spaces", Check.tell(x, "fork 0; fork 0; fork 0; no;"), 1);
        Check.due("processes", x.count(0), 3);
    }

    static void promise03_refused_faultLeavesActsThatAreKept() {
        SpaceWarden x = new SpaceWarden();
        x.fork(0);
        Check.tell(x, "no;");
        Check.due("undo", x.undo(), 0);
        Check.due("undone", x.count(0), 1);
    }

    static void promise03_refused_faultLeavesTheImage() {
        SpaceWarden x = new SpaceWarden();
        x.image();
        x.fork(0);
        Check.tell(x, "no;");
        Check.yes("restore", x.restore());
        Check.due("as the image", x.count(0), 1);
    }

    static void promise03_anew_whatWasIsGone() {
        SpaceWarden x = Check.told("mount 0 1 2; share 0; fork 0; user 1; map 0 1 0 0 9; mounts 1; numbers 1; fork 1; end 2;"
            + "become 0 5;");
        Check.due("spaces", Check.tell(x, ""), 0);
        Edges.same("as a new object", Edges.state(new SpaceWarden()), Edges.state(x));
    }

    static void promise03_anew_numbersStartAnew() {
        SpaceWarden x = Check.told("fork 0; fork 0; fork 0;");
        Check.tell(x, "fork 0;");
        Check.due("number", x.number(1, 0), 2);
    }

    static void promise03_anew_actsAreGone() {
        SpaceWarden x = new SpaceWarden();
        x.fork(0);
        Check.tell(x, "fork 0; fork 0;");
        Check.due("kept", x.count(7), 0);
        Check.due("undo", x.undo(), Edges.NONE);
    }

    static void promise03_anew_whatTheTextDidCantBeUndone() {
        SpaceWarden x = Check.told("fork 0; fork 0;");
        Check.due("undo", x.undo(), Edges.NONE);
        x.fork(0);
        Check.due("undo of the call", x.undo(), 0);
        Check.due("undo of the text", x.undo(), Edges.NONE);
        Check.due("it stays", x.count(0), 7);
    }

    static void promise03_anew_notedIsGone() {
        SpaceWarden x = new SpaceWarden();
        x.note(0, 1, false);
        Check.tell(x, "fork 0;");
        Check.due("noted", x.count(8), 0);
        Check.due("fits", x.fits(), 2);
    }

    static void promise03_anew_imageIsGone() {
        SpaceWarden x = new SpaceWarden();
        x.image();
        Check.tell(x, "fork 0;");
        Check.no("restore", x.restore());
        Check.due("as the text told", x.count(0), 3);
    }

    /** The document names what is gone, and STATUS isn't named: it counts on. */
    static void promise03_anew_statusStays() {
        SpaceWarden x = new SpaceWarden();
        Check.tell(x, "no;");
        x.fork(9);
        x.note(9, 1, true);
        Check.tell(x, "fork 0;");
        Check.due("STATUS 0", x.count(10), 1);
        Check.due("STATUS 1", x.count(11), 1);
        Check.due("STATUS 2", x.count(12), 1);
    }

    // What can't be in a text is passed over, and doesn't count as refused.

    private static void passesOver(String clause) {
        SpaceWarden x = Check.told("fork 0; become 1 5; " + clause + " fork 0;");
        Check.due("\"" + clause + "\" isn't refused", x.count(11), 0);
        Edges.same("passed over", Edges.state(Check.told("fork 0; become 1 5; fork 0;")), Edges.state(x));
    }

    static void promise03_passedOver_fork() {
        passesOver("fork 7;");
    }

    static void promise03_passedOver_user() {
        passesOver("user 7;");
    }

    static void promise03_passedOver_numbers() {
        passesOver("numbers 1;");
    }

    static void promise03_passedOver_mounts() {
        passesOver("mounts 1;");
    }

    static void promise03_passedOver_map() {
        passesOver("map 0 0 1 1 1;");
        passesOver("map 0 1 1 1 0;");
    }

    static void promise03_passedOver_become() {
        passesOver("become 1 0;");
    }

    static void promise03_passedOver_mount() {
        passesOver("mount 0 0 0;");
    }

    static void promise03_passedOver_enter() {
        passesOver("enter 0 1 user;");
        passesOver("enter 0 1 numbers;");
        passesOver("enter 0 1 mounts;");
    }

    static void promise03_passedOver_end() {
        passesOver("end 0;");
    }

    static void promise03_passedOver_kill() {
        passesOver("kill 1 0;");
    }

    static void promise03_passedOver_share() {
        passesOver("share 1;");
    }

    static void promise03_passedOver_countsAsAClause() {
        Check.fault("fork 9;".repeat(60) + "fork 0;", 2, 420);
    }

    // Tokens: words, numbers, the sign ; and blanks.

    static void promise03_tokens_noBlankIsNeeded() {
        Check.due("processes", Check.told("fork0;enter0 0user;fork0;").count(0), 7);
    }

    static void promise03_tokens_blanks32And10() {
        Check.due("processes", Check.told("\n fork\n \n0 \n;\n ").count(0), 3);
    }

    static void promise03_tokens_blanksAloneAreATextWithoutActs() {
        Check.due("processes", Check.told("  \n\n").count(0), 1);
    }

    static void promise03_tokens_otherBytesAreNone() {
        for (int sign = 0; sign < 256; sign++) {
            boolean isSome = sign == 32 || sign == 10 || sign == ';' || sign >= '0' && sign <= '9'
                || sign >= 'a' && sign <= 'z';
            if (!isSome) {
                SpaceWarden x = new SpaceWarden();
                Check.due("byte " + sign, Check.tell(x, "fork 0; " + (char) sign), 1);
                Check.due("its place", x.fault(), 8);
            }
        }
    }

    static void promise03_tokens_noneBetweenOthers() {
        Check.fault("fork\t0;", 1, 4);
        Check.fault("fork 0\t;", 1, 6);
        Check.fault("fork 0;\r", 1, 7);
        Check.fault("fork 0.", 1, 6);
    }

    static void promise03_tokens_noneRightBehindAWordOrNumber() {
        Check.fault("fork{0;", 1, 4);
        Check.fault("fork`0;", 1, 4);
        Check.fault("forK 0;", 1, 0);
        Check.fault("fork 0:", 1, 6);
        Check.fault("fork 0/", 1, 6);
    }

    static void promise03_tokens_wordIsTheLongestRow() {
        Check.fault("forkfork 0;", 1, 0);
        Check.fault("forks 0;", 1, 0);
        Check.fault("forka 0;", 1, 0);
        Check.fault("forkz 0;", 1, 0);
        Check.fault("mountss 0;", 1, 0);
        Check.fault("fork 0;zend 0;", 1, 7);
    }

    static void promise03_tokens_wordIsWhole() {
        Check.fault("for k 0;", 1, 0);
        Check.fault("mo unt 0 0 0;", 1, 0);
        Check.fault("f", 1, 0);
    }

    static void promise03_tokens_mountAndMountsAreTwoWords() {
        Check.fault("mount 0;", 1, 7);
        Check.fault("mounts 0 0 0;", 1, 9);
    }

    static void promise03_tokens_numberOfOneDigit() {
        Check.due("processes", Check.told("fork 0;").count(0), 3);
    }

    static void promise03_tokens_numberOfTwoDigits() {
        Check.due("processes", Check.told("fork 00; fork 01;").count(0), 7);
        Check.due("parent", Check.told("fork 00; fork 01;").process(2, 0), 1);
    }

    static void promise03_tokens_numberIsTheLongestRow() {
        Check.fault("fork 1 5;", 1, 7);
        Check.fault("kill 12;", 1, 7);
    }

    // Fault 1: a token that can't stand there, or is none.

    static void promise03_fault1_numberWhereAWordIsDue() {
        Check.fault("0 fork;", 1, 0);
        Check.fault("fork 0; 7", 1, 8);
    }

    static void promise03_fault1_signWhereAWordIsDue() {
        Check.fault(";", 1, 0);
        Check.fault("fork 0;;", 1, 7);
    }

    static void promise03_fault1_wordThatIsNone() {
        Check.fault("spoon 0;", 1, 0);
        Check.fault("work 0;", 1, 0);
        Check.fault("forl 0;", 1, 0);
        Check.fault(" \n spaces 0;", 1, 3);
    }

    static void promise03_fault1_wordWhereANumberIsDue() {
        Check.fault("fork fork;", 1, 5);
        Check.fault("map 0 1 user 0 1;", 1, 8);
    }

    static void promise03_fault1_signWhereANumberIsDue() {
        Check.fault("fork ;", 1, 5);
        Check.fault("map 0 1 2 3;", 1, 11);
        Check.fault("become 0;", 1, 8);
        Check.fault("mount 0 1;", 1, 9);
        Check.fault("enter 0;", 1, 7);
        Check.fault("kill 0;", 1, 6);
    }

    static void promise03_fault1_numberWhereTheSignIsDue() {
        for (String clause : CLAUSES) {
            Check.fault(clause.replace(";", " 0;"), 1, clause.length());
        }
    }

    static void promise03_fault1_wordWhereTheSignIsDue() {
        for (String clause : CLAUSES) {
            Check.fault(clause.replace(";", " user;"), 1, clause.length());
        }
    }

    static void promise03_fault1_numberWhereAKindIsDue() {
        Check.fault("enter 0 1 2;", 1, 10);
    }

    static void promise03_fault1_signWhereAKindIsDue() {
        Check.fault("enter 0 1;", 1, 9);
    }

    static void promise03_fault1_otherWordWhereAKindIsDue() {
        for (String word : new String[] {"fork", "map", "become", "mount", "enter", "end", "kill", "share", "users", "x"}) {
            Check.fault("enter 0 1 " + word + ";", 1, 10);
        }
    }

    static void promise03_fault1_kindAheadOfQ() {
        Check.fault("enter 0 user;", 1, 8);
    }

    static void promise03_fault1_endsTooSoonBehindEachToken() {
        for (String clause : CLAUSES) {
            for (int end = 1; end < clause.length(); end++) {
                boolean isBehindAToken = clause.charAt(end) == ' ' || clause.charAt(end) == ';';
                if (isBehindAToken) {
                    Check.fault(clause.substring(0, end), 1, end);
                }
            }
        }
    }

    static void promise03_fault1_endsTooSoonBehindBlanks() {
        Check.fault("fork  \n", 1, 7);
        Check.fault("fork 0 ", 1, 7);
    }

    static void promise03_fault1_endsTooSoonAt900() {
        Check.fault("fork 0" + " ".repeat(894), 1, 900);
    }

    static void promise03_fault1_threeDigitsWhereNoNumberCanStand() {
        Check.fault("123", 1, 0);
        Check.fault("fork 0 123;", 1, 7);
        Check.fault("enter 0 1 123;", 1, 10);
    }

    // Fault 2: a token that can stand there, but is too much.

    static void promise03_fault2_numberOfThreeDigits() {
        Check.fault("become 0 100;", 2, 9);
        Check.fault("mount 0 0 100;", 2, 10);
        Check.fault("map 0 1 100 0 1;", 2, 8);
        Check.fault("map 0 1 0 100 1;", 2, 10);
        Check.fault("map 0 1 0 0 100;", 2, 12);
    }

    static void promise03_fault2_threeDigitsOfASmallNumber() {
        Check.fault("fork 000;", 2, 5);
        Check.fault("kill 0 001;", 2, 7);
        Check.fault("map 0 001 0 0 1;", 2, 6);
    }

    static void promise03_fault2_moreDigitsThanAnIntHolds() {
        Check.fault("fork 4294967296;", 2, 5);
        Check.fault("become 0 " + "9".repeat(800) + ";", 2, 9);
    }

    static void promise03_fault2_pAbove15InEachClause() {
        for (String clause : CLAUSES) {
            Check.fault(clause.replaceFirst("15", "16"), 2, clause.indexOf("15"));
        }
    }

    static void promise03_fault2_qAbove15() {
        Check.fault("kill 15 16;", 2, 8);
        Check.fault("enter 15 16 user;", 2, 9);
        Check.fault("kill 15 99;", 2, 8);
    }

    static void promise03_fault2_spaceAbove7() {
        Check.fault("map 15 8 99 99 99;", 2, 7);
    }

    static void promise03_fault2_placeAbove7() {
        Check.fault("mount 15 8 99;", 2, 9);
    }

    static void promise03_fault2_greatestThatCanStand() {
        for (String clause : CLAUSES) {
            Check.due("\"" + clause + "\"", Check.tell(new SpaceWarden(), clause), 0);
        }
    }

    static void promise03_fault2_leastThatCanStand() {
        for (String clause : CLAUSES) {
            String least = clause.replace("15", "0").replace("99", "0").replace("7", "0");
            Check.due("\"" + least + "\"", Check.tell(new SpaceWarden(), least), 0);
        }
    }

    static void promise03_full_sixtyClauses() {
        Check.due("spaces", Check.tell(new SpaceWarden(), SIXTY), 0);
    }

    static void promise03_full_theSixtiethIsDone() {
        Check.due("processes", Check.told("end 0;".repeat(59) + "fork 0;").count(0), 3);
    }

    static void promise03_full_blanksBehindSixtyClauses() {
        Check.due("spaces", Check.tell(new SpaceWarden(), SIXTY + " \n "), 0);
    }

    static void promise03_fault2_wordOfThe61stClause() {
        Check.fault(SIXTY + " fork 0;", 2, 361);
    }

    static void promise03_fault2_wordOfThe61stClauseThoughItEndsThere() {
        Check.fault(SIXTY + "fork", 2, 360);
    }

    static void promise03_fault1_otherWordThanAnActsBehindSixty() {
        Check.fault(SIXTY + "forks 0;", 1, 360);
    }

    static void promise03_fault1_numberOrSignBehindSixty() {
        Check.fault(SIXTY + "7", 1, 360);
        Check.fault(SIXTY + ";", 1, 360);
        Check.fault(SIXTY + "X", 1, 360);
    }

    static void promise03_first_faultAlongTheText() {
        Check.fault("fork 16; no;", 2, 5);
        Check.fault("no; fork 16;", 1, 0);
        Check.fault("map 16 8 100;", 2, 4);
        Check.fault("map 0 8 x", 2, 6);
        Check.fault("map 0 x 100", 1, 6);
    }

    static void promise03_first_faultAheadOfThe61stClause() {
        Check.fault("end 0;".repeat(59) + "end 16;end 0;", 2, 358);
        Check.fault("end 0;".repeat(59) + "end 0 end 0;", 1, 360);
    }

    // Promise 4: the place of the latest spaces()'s fault.

    static void promise04_empty_noneAtFirst() {
        Check.due("fault", new SpaceWarden().fault(), Edges.NONE);
    }

    static void promise04_empty_noneBehindARightText() {
        Check.due("fault", Check.told("fork 0;").fault(), Edges.NONE);
    }

    static void promise04_first_place0() {
        Check.fault("no;", 1, 0);
    }

    static void promise04_full_place899() {
        Check.fault(" ".repeat(899) + "7", 1, 899);
    }

    static void promise04_latest_noneByARightTextBehindAFault() {
        SpaceWarden x = new SpaceWarden();
        Check.tell(x, " no;");
        Check.tell(x, "fork 0;");
        Check.due("fault", x.fault(), Edges.NONE);
    }

    static void promise04_latest_ofTwoFaults() {
        SpaceWarden x = new SpaceWarden();
        Check.tell(x, "  no;");
        Check.tell(x, " no;");
        Check.due("fault", x.fault(), 1);
    }

    static void promise04_refused_illegalNLeavesIt() {
        SpaceWarden x = new SpaceWarden();
        Check.tell(x, "  no;");
        Check.illegal("spaces(1)", () -> x.spaces(1));
        Check.due("fault", x.fault(), 2);
    }

    static void promise04_latest_actsAndImagesLeaveIt() {
        SpaceWarden x = new SpaceWarden();
        x.image();
        Check.tell(x, "  no;");
        x.fork(0);
        x.undo();
        x.restore();
        Check.due("fault", x.fault(), 2);
    }
}
