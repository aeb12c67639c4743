/** Promises 1 to 4: a new object, feed, spaces, fault. */
public final class TextTest {
    public static void main(String[] args) {
        newObject();
        feeding();
        tellingAnew();
        refusedText();
        tokens();
        cannotStand();
        tooMuch();
        clauses();
        passedOver();
        everyClause();
        Check.finish();
    }

    private static void newObject() {
        SpaceWarden x = new SpaceWarden();
        int[] counts = {1, 1, 1, 1, 1, 0, 1, 0, 0, 0, 0, 0, 0};
        for (int what = 0; what < counts.length; what++) {
            Check.due("new: count " + what, x.count(what), counts[what]);
        }
        int[] first = {0, 0, 0, 0, 0, 1, 0, 0, 1, 1};
        for (int what = 0; what < first.length; what++) {
            Check.due("new: process 0, " + what, x.process(0, what), first[what]);
        }
        for (int kind = 0; kind < 3; kind++) {
            int[] root = {-1, 0, 0, 1, 0, 0, kind == 2 ? 1 : 0};
            for (int what = 0; what < root.length; what++) {
                Check.due("new: space " + kind + ", " + what, x.space(kind, 0, what), root[what]);
            }
        }
        for (int place = 0; place < 8; place++) {
            Check.due("new: mounted " + place, x.mounted(0, place), 0);
        }
        Check.due("new: fault", x.fault(), -1);
        Check.no("new: restore", x.restore());
        Check.due("new: undo", x.undo(), -1);
    }

    private static void feeding() {
        SpaceWarden x = new SpaceWarden();
        for (int i = 1; i <= 45; i++) {
            Check.due("feed " + i, x.feed(0, 0, 0, 0, 0), 20 * i);
        }
        Check.due("feed beyond 900", x.feed(0, 0, 0, 0, 0), -1);
        Check.due("bytes behind that", x.count(9), 900);
        Check.due("a byte 0 is no token", x.spaces(900), 1);
        Check.due("its place", x.fault(), 0);
        Check.due("the tape is empty", x.count(9), 0);
        Check.due("and can be fed", x.feed(0x666f726b, 0x20303b20, -1, -1, -1), 20);
        Check.due("the highest byte comes first", x.spaces(8), 0);
        Check.due("fork 0; told", x.count(0), 3);
        x.feed(0x20202020, 0x20202020, 0x202020ff, 0x66666666, 0x66666666);
        Check.due("a byte 255 is no token", x.spaces(20), 1);
        Check.due("place of byte 255", x.fault(), 11);
    }

    private static void tellingAnew() {
        SpaceWarden x = Check.told("fork 0; fork 0;");
        Check.due("fork", x.fork(0), 3);
        Check.due("note", x.note(0, 2, true), 1);
        Check.due("refused act", x.fork(9), -1);
        Check.due("refused note", x.note(3, 2, true), -1);
        x.image();
        Check.tape(x, "fork 0; mounts 1;");
        Check.illegal("spaces(-1)", () -> x.spaces(-1));
        Check.illegal("spaces beyond the tape", () -> x.spaces(21));
        Check.illegal("spaces of the least int", () -> x.spaces(Integer.MIN_VALUE));
        Check.due("nothing changed: tape", x.count(9), 20);
        Check.due("nothing changed: processes", x.count(0), 15);
        Check.due("nothing changed: acts", x.count(7), 1);
        Check.due("nothing changed: noted", x.count(8), 1);
        Check.due("nothing changed: texts refused", x.count(10), 0);
        Check.due("the first 7 bytes", x.spaces(7), 0);
        Check.due("all anew: processes", x.count(0), 3);
        Check.due("all anew: mount spaces", x.count(4), 1);
        Check.due("acts are gone", x.count(7), 0);
        Check.due("what the text did can't be undone", x.undo(), -1);
        Check.due("what is noted is gone", x.count(8), 0);
        Check.no("the image is gone", x.restore());
        Check.due("the tape is empty, the rest too", x.count(9), 0);
        Check.due("STATUS 1 stays", x.count(11), 1);
        Check.due("STATUS 2 stays", x.count(12), 1);
        Check.due("a text of 0 bytes", x.spaces(0), 0);
        Check.due("all anew by that", x.count(0), 1);
    }

    private static void refusedText() {
        SpaceWarden x = Check.told("fork 0; user 1;");
        x.fork(1);
        x.note(0, 3, false);
        x.image();
        x.fork(0);
        Check.due("a fault behind acts", Check.tell(x, "fork 0; fork 0; fork 0; forks 0;"), 1);
        Check.due("its place", x.fault(), 24);
        Check.due("STATUS 0", x.count(10), 1);
        Check.due("all stays: processes", x.count(0), 15);
        Check.due("all stays: acts", x.count(7), 2);
        Check.due("all stays: noted", x.count(8), 1);
        Check.due("the tape is empty", x.count(9), 0);
        Check.illegal("spaces(1)", () -> x.spaces(1));
        Check.due("fault is the latest told one's", x.fault(), 24);
        Check.yes("all stays: the image", x.restore());
        Check.due("restored", x.count(0), 7);
        Check.due("STATUS is restored", x.count(10), 0);
        Check.due("the fault's place is no part of an image", x.fault(), 24);
        Check.due("a right text", Check.tell(x, "fork 0;"), 0);
        Check.due("no fault then", x.fault(), -1);
    }

    private static void tokens() {
        Check.due("no blanks are needed", Check.told("fork0;fork0;mount0 1 2;").count(0), 7);
        Check.due("blanks count for nothing", Check.told("  \n fork \n\n 0 ; \n ").count(0), 3);
        Check.due("two digits", Check.told("fork 00;fork 01;").count(0), 7);
        Check.due("blanks alone", Check.told(" \n ").count(0), 1);
        Check.fault("fork\t0;", 1, 4);
        Check.fault("fork 0;\r", 1, 7);
        Check.fault("Fork 0;", 1, 0);
        Check.fault("fork -1;", 1, 5);
        Check.fault("fork 1 2;", 1, 7);
        Check.fault("fork 1a;", 1, 6);
        Check.fault("for k 1;", 1, 0);
        Check.fault("fork{", 1, 4);
        Check.fault("fork`", 1, 4);
        Check.fault("fork 0:", 1, 6);
        Check.fault("fork /", 1, 5);
    }

    private static void cannotStand() {
        Check.fault("0", 1, 0);
        Check.fault(";", 1, 0);
        Check.fault("fork 0;;", 1, 7);
        Check.fault("fork", 1, 4);
        Check.fault("fork  ", 1, 6);
        Check.fault("fork 0", 1, 6);
        Check.fault("fork ;", 1, 5);
        Check.fault("fork fork", 1, 5);
        Check.fault("forkfork 0;", 1, 0);
        Check.fault("forkz 0;", 1, 0);
        Check.fault("work 0;", 1, 0);
        Check.fault("forl 0;", 1, 0);
        Check.fault("forka 0;", 1, 0);
        Check.fault("mountss 0;", 1, 0);
        Check.fault("use 0;", 1, 0);
        Check.fault("enter 0 1;", 1, 9);
        Check.fault("enter 0 1 2;", 1, 10);
        Check.fault("enter 0 1 mount;", 1, 10);
        Check.fault("enter 0 1 fork;", 1, 10);
        Check.fault("enter 0 user;", 1, 8);
        Check.fault("enter 0 1 user user;", 1, 15);
        Check.fault("map 0 1 2 3;", 1, 11);
        Check.fault("map 0 1 2 3 4 5;", 1, 14);
        Check.fault("mount 0 1;", 1, 9);
        Check.fault("become 0;", 1, 8);
        Check.fault("kill 0;", 1, 6);
        Check.fault("user;", 1, 4);
        Check.fault("end 0 1;", 1, 6);
        Check.fault("share 0 1;", 1, 8);
        Check.fault("fork 0 123;", 1, 7);
        Check.fault("123", 1, 0);
    }

    private static void tooMuch() {
        Check.fault("fork 16;", 2, 5);
        Check.fault("fork 99", 2, 5);
        Check.fault("fork 001;", 2, 5);
        Check.fault("fork 12345678901234567890;", 2, 5);
        Check.fault("kill 0 16;", 2, 7);
        Check.fault("enter 0 16 user;", 2, 8);
        Check.fault("map 0 8 0 0 1;", 2, 6);
        Check.fault("mount 0 8 1;", 2, 8);
        Check.fault("mount 0 1 100;", 2, 10);
        Check.fault("become 0 100;", 2, 9);
        Check.fault("map 0 1 100 0 1;", 2, 8);
        Check.fault("map 0 1 0 100 1;", 2, 10);
        Check.fault("map 0 1 0 0 100;", 2, 12);
        Check.fault("fork 16 x", 2, 5);
        Check.fault("fork x 16", 1, 5);
        Check.due("the greatest that can stand", Check.told("map 15 7 99 99 99;mount 15 7 99;become 15 99;"
            + "kill 15 15;enter 15 15 mounts;").count(0), 1);
    }

    private static void clauses() {
        String sixty = "end 0;".repeat(60);
        Check.due("60 clauses", Check.told(sixty + "  ").count(0), 1);
        Check.fault(sixty + " fork 0;", 2, 361);
        Check.fault(sixty + "end", 2, 360);
        Check.fault(sixty + "ends", 1, 360);
        Check.fault(sixty + "7", 1, 360);
        Check.fault(sixty + ";", 1, 360);
        Check.fault("end 0;".repeat(59) + "end 16;end 0;", 2, 358);
    }

    private static void passedOver() {
        SpaceWarden x = Check.told("fork 5; end 0; fork 0; kill 0 0; enter 1 1 user; mount 0 0 0; fork 0;");
        Check.due("what can't be is passed over", x.count(0), 7);
        Check.due("and isn't refused", x.count(11), 0);
        Check.due("nor are the others kept", x.count(7), 0);
    }

    private static void everyClause() {
        SpaceWarden x = Check.told("fork 0; user 1; numbers 1; mounts 1; map 0 1 10 20 5; map 1 1 0 0 1; become 1 11;"
            + "mount 0 3 9; share 0; fork 1; fork 1; fork 0; fork 0;");
        Check.due("processes", x.count(0), 63);
        Check.due("user: in it", x.process(1, 2), 1);
        Check.due("numbers: children's", x.process(1, 4), 1);
        Check.due("mounts: in it", x.process(1, 3), 1);
        Check.due("map: ranges", x.space(1, 1, 4), 2);
        Check.due("become", x.process(1, 6), 21);
        Check.due("mount", x.mounted(0, 3), 9);
        Check.due("share", x.space(2, 0, 5), 1);
        x = Check.told("fork 0; user 1; fork 1; numbers 0; fork 0; mounts 3; enter 0 2 user;");
        Check.due("enter user", x.process(0, 2), 1);
        x = Check.told("fork 0; user 1; fork 1; numbers 0; fork 0; mounts 3; enter 0 3 mounts; enter 1 2 numbers;");
        Check.due("enter mounts", x.process(0, 3), 1);
        x = Check.told("fork 0; fork 0; numbers 0; fork 0; enter 1 3 numbers; end 2;");
        Check.due("enter numbers", x.process(1, 4), 1);
        Check.due("end", x.count(0), 11);
        x = Check.told("fork 0; fork 0; kill 1 2; kill 1 0;");
        Check.due("kill", x.count(0), 3);
    }
}
