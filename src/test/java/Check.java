import java.util.NoSuchElementException;

/** Counts the answers that are not as due; a test ends with exit code 1 if there was one. */
final class Check {
    private static int wrong = 0;
    private static int asked = 0;
    private static String inCase = "";

    private Check() {
    }

    /** What is told ahead of each wrong answer from here on. */
    static void inCase(String name) {
        inCase = name;
    }

    static int asked() {
        return asked;
    }

    static void due(String call, long got, long want) {
        asked++;
        if (got != want) {
            tellWrong(call + " answered " + got + ", due is " + want);
        }
    }

    private static void tellWrong(String what) {
        wrong++;
        System.out.println(inCase + what);
    }

    static void yes(String call, boolean got) {
        due(call, got ? 1 : 0, 1);
    }

    static void no(String call, boolean got) {
        due(call, got ? 1 : 0, 0);
    }

    static void noSuch(String call, Runnable made) {
        throwing(call, made, NoSuchElementException.class);
    }

    static void illegal(String call, Runnable made) {
        throwing(call, made, IllegalArgumentException.class);
    }

    private static void throwing(String call, Runnable made, Class<? extends RuntimeException> wanted) {
        asked++;
        try {
            made.run();
        } catch (RuntimeException thrown) {
            if (thrown.getClass() != wanted) {
                tellWrong(call + " throws " + thrown.getClass().getName() + ", due is " + wanted.getName());
            }
            return;
        }
        tellWrong(call + " throws nothing, due is " + wanted.getName());
    }

    static void finish() {
        System.out.println(asked + " answers, " + wrong + " of them not as due");
        if (wrong != 0) {
            System.exit(1);
        }
    }

    /** Puts a text on the tape, with blanks behind it up to a whole feed. */
    static void tape(SpaceWarden x, String text) {
        StringBuilder padded = new StringBuilder(text);
        while (padded.length() % 20 != 0) {
            padded.append(' ');
        }
        for (int at = 0; at < padded.length(); at += 20) {
            x.feed(four(padded, at), four(padded, at + 4), four(padded, at + 8), four(padded, at + 12),
                four(padded, at + 16));
        }
    }

    private static int four(CharSequence text, int at) {
        return text.charAt(at) << 24 | text.charAt(at + 1) << 16 | text.charAt(at + 2) << 8 | text.charAt(at + 3);
    }

    static int tell(SpaceWarden x, String text) {
        tape(x, text);
        return x.spaces(text.length());
    }

    static SpaceWarden told(String text) {
        SpaceWarden x = new SpaceWarden();
        due("spaces of \"" + text + "\"", tell(x, text), 0);
        return x;
    }

    static void fault(String text, int kind, int place) {
        SpaceWarden x = new SpaceWarden();
        due("spaces of \"" + text + "\"", tell(x, text), kind);
        due("fault of \"" + text + "\"", x.fault(), place);
    }
}
