/** What the tests share: they note every answer that is not the one that is due. */
final class Checks {
    /** A call of the class; a boolean answer counts 1 or 0. */
    interface Call {
        long answer();
    }

    private static int made = 0;
    private static int wrong = 0;

    private Checks() {
    }

    static void same(String what, long got, long want) {
        made++;
        if (got != want) {
            fail(what + " answered " + got + ", due is " + want);
        }
    }

    static void same(String what, String got, String want) {
        made++;
        if (!got.equals(want)) {
            fail(what + " answered " + got + ", due is " + want);
        }
    }

    /** The very class is looked at: the machine's own exceptions are classes below the due ones. */
    static void thrown(String what, Class<? extends RuntimeException> due, Call call) {
        same(what, answerOf(call), "throws." + due.getSimpleName());
    }

    static String answerOf(Call call) {
        try {
            return String.valueOf(call.answer());
        } catch (RuntimeException e) {
            return "throws." + e.getClass().getSimpleName();
        }
    }

    static void fail(String text) {
        wrong++;
        if (wrong <= 50) {
            System.out.println(text);
        }
    }

    static void finish() {
        System.out.println(made + " checks, " + wrong + " wrong");
        if (wrong != 0) {
            System.exit(1);
        }
    }
}
