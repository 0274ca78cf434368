/** Compares answers with what is due, and counts the wrong ones. */
final class Check {
    interface Call {
        long run();
    }

    static final Class<IndexOutOfBoundsException> NO_INDEX = IndexOutOfBoundsException.class;
    static final Class<IllegalArgumentException> BAD_ARGUMENT = IllegalArgumentException.class;
    static final Class<IllegalStateException> BAD_STATE = IllegalStateException.class;

    private static int checks = 0;
    private static int wrong = 0;
    private static String about = "";

    private Check() {
    }

    /** What the checks behind this call are for, as their failures tell it. */
    static void about(String text) {
        about = text;
    }

    static void due(String what, long got, long want) {
        checks++;
        if (got != want) {
            fail(what + " answered " + got + ", due is " + want);
        }
    }

    static void isTrue(String what, boolean holds) {
        checks++;
        if (!holds) {
            fail(what + " does not hold");
        }
    }

    /** Like due(), but an exception is a wrong answer too. */
    static void answers(String what, long want, Call call) {
        checks++;
        try {
            long got = call.run();
            if (got != want) {
                fail(what + " answered " + got + ", due is " + want);
            }
        } catch (RuntimeException thrown) {
            fail(what + " threw " + thrown + ", due is " + want);
        }
    }

    static void isTaken(String what, Call call) {
        checks++;
        try {
            call.run();
        } catch (RuntimeException thrown) {
            fail(what + " threw " + thrown + ", due is an answer");
        }
    }

    static void fails(String what, Class<? extends RuntimeException> kind, Call call) {
        checks++;
        try {
            long got = call.run();
            fail(what + " answered " + got + ", due is " + kind.getSimpleName());
        } catch (RuntimeException thrown) {
            if (thrown.getClass() != kind) {
                fail(what + " threw " + thrown + ", due is " + kind.getSimpleName());
            }
        }
    }

    /** Besides the exception it wants that the whole state is as before. */
    static void failsUnchanged(LadderMakers x, String what,
            Class<? extends RuntimeException> kind, Call call) {
        long before = x.digest();
        fails(what, kind, call);
        due(what + ": the digest behind the exception", x.digest(), before);
    }

    static void fail(String text) {
        wrong++;
        if (wrong <= 50) {
            System.out.println(about + text);
        }
    }

    static void end() {
        System.out.println(checks + " checks, " + wrong + " wrong");
        if (wrong != 0) {
            System.exit(1);
        }
    }
}
