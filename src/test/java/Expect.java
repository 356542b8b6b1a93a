/** Counts what was looked at and prints what is not as it is due. */
final class Expect {
    private static int looked = 0;
    private static int wrong = 0;
    private static String sentence = "";

    private Expect() {
    }

    /** The sentence of the document that what comes next is about; it is told with what is wrong. */
    static void about(String words) {
        sentence = "[" + words + "] ";
    }

    static void same(String what, long got, long due) {
        looked++;
        if (got != due) {
            tell(what + " answered " + got + ", due is " + due);
        }
    }

    static void same(String what, String got, String due) {
        looked++;
        if (!got.equals(due)) {
            tell(what + " answered \"" + got + "\", due is \"" + due + "\"");
        }
    }

    static void yes(String what, boolean got) {
        same(what, got ? 1 : 0, 1);
    }

    static void no(String what, boolean got) {
        same(what, got ? 1 : 0, 0);
    }

    static void raises(String what, Class<?> due, Runnable call) {
        same(what, raisedBy(call), due.getSimpleName());
    }

    /** The name of what a call throws; "nothing" if it does not. */
    static String raisedBy(Runnable call) {
        try {
            call.run();
            return "nothing";
        } catch (RuntimeException e) {
            return e.getClass().getSimpleName();
        }
    }

    /** Ends the test, with exit code 1 if anything was wrong. */
    static void finish() {
        System.out.println(looked + " looked at, " + wrong + " wrong");
        if (wrong > 0 || looked == 0) {
            System.exit(1);
        }
    }

    private static void tell(String line) {
        wrong++;
        if (wrong <= 50) {
            System.out.println(sentence + line);
        }
    }
}
