/** Counts the answers of one test that are not the ones that are due. */
final class Check {
    /** A call whose answer, or exception, is looked at; true is 1, false 0. */
    interface Call {
        long run();
    }

    /** A call without an answer. */
    interface Act {
        void run();
    }

    private static int looked = 0;
    private static int wrong = 0;

    private Check() {
    }

    static void due(String what, long got, long want) {
        looked++;
        if (got != want) {
            complain(what + " answered " + got + ", due is " + want);
        }
    }

    static void due(String what, boolean got, boolean want) {
        looked++;
        if (got != want) {
            complain(what + " answered " + got + ", due is " + want);
        }
    }

    /** The exception must be of the class itself: the machine's own ones are classes below it. */
    static void refused(String what, Class<? extends RuntimeException> kind, Act act) {
        looked++;
        try {
            act.run();
            complain(what + " throws nothing, due is " + kind.getSimpleName());
        } catch (RuntimeException thrown) {
            if (thrown.getClass() != kind) {
                complain(what + " throws " + thrown + ", due is " + kind.getSimpleName());
            }
        }
    }

    static void index(String what, Act act) {
        refused(what, IndexOutOfBoundsException.class, act);
    }

    static void argument(String what, Act act) {
        refused(what, IllegalArgumentException.class, act);
    }

    static void full(String what, Act act) {
        refused(what, UnsupportedOperationException.class, act);
    }

    static void element(String what, Act act) {
        refused(what, java.util.NoSuchElementException.class, act);
    }

    static void complain(String text) {
        wrong++;
        if (wrong <= 40) {
            System.out.println(text);
        }
    }

    /** Tells what was found, and ends the test's machine with exit code 1 if something is wrong. */
    static void finish(String test) {
        System.out.println(test + ": " + looked + " answers, " + wrong + " wrong");
        if (wrong != 0 || looked == 0) {
            System.exit(1);
        }
    }

    /** Puts a text on the tape: all of it, twenty bytes a call, then the tape is cut. */
    static void tape(BridgePaint paint, String text) {
        paint.end(0);
        int[] bytes = new int[(text.length() + 19) / 20 * 20];
        for (int i = 0; i < text.length(); i++) {
            bytes[i] = text.charAt(i);
        }
        for (int at = 0; at < bytes.length; at += 20) {
            paint.feed(number(bytes, at), number(bytes, at + 4), number(bytes, at + 8),
                    number(bytes, at + 12), number(bytes, at + 16));
        }
        paint.end(text.length());
    }

    private static int number(int[] bytes, int at) {
        return bytes[at] << 24 | bytes[at + 1] << 16 | bytes[at + 2] << 8 | bytes[at + 3];
    }

    static int terms(BridgePaint paint, String text) {
        tape(paint, text);
        return paint.terms();
    }
}
