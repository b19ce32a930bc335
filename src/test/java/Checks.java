import java.util.List;

/** What the tests share: they report each answer that is not due, and end with 1 if there was one. */
final class Checks {
    private static final int REPORTED_AT_MOST = 50;

    private static int asked = 0;
    private static int wrong = 0;
    private static String under = "";

    private Checks() {
    }

    interface Call {
        Object answer();
    }

    /** A call of a glacier that is yet to be made. */
    interface Ask {
        Object of(GlacierYears g);
    }

    /** What all reports begin with from now on. */
    static void under(String text) {
        under = text;
    }

    /** What the call answers, or the name of the exception that it throws, behind "throws.". */
    static String outcome(Call call) {
        try {
            return String.valueOf(call.answer());
        } catch (RuntimeException e) {
            return "throws." + e.getClass().getSimpleName();
        }
    }

    static void due(String what, Call call, Object want) {
        same(what, outcome(call), String.valueOf(want));
    }

    static void noPlace(String what, Call call) {
        due(what, call, "throws.IndexOutOfBoundsException");
    }

    static void badArgument(String what, Call call) {
        due(what, call, "throws.IllegalArgumentException");
    }

    static void badState(String what, Call call) {
        due(what, call, "throws.IllegalStateException");
    }

    /** What a new glacier answers that has lived the past. */
    static void answers(String what, Past past, Ask ask, Object want) {
        due(what, () -> ask.of(past.lived()), want);
    }

    static void refusesIndex(String what, Past past, Ask ask) {
        refuses(what, past, ask, "IndexOutOfBoundsException");
    }

    static void refusesArgument(String what, Past past, Ask ask) {
        refuses(what, past, ask, "IllegalArgumentException");
    }

    static void refusesState(String what, Past past, Ask ask) {
        refuses(what, past, ask, "IllegalStateException");
    }

    /** That the call throws this exception, and that no other method answers otherwise behind it. */
    private static void refuses(String what, Past past, Ask ask, String exception) {
        answers(what, past, ask, "throws." + exception);
        alike(what + " changes nothing", past.then(g -> outcome(() -> ask.of(g))), past);
    }

    /** That both have lived to be alike: every answer is the same. */
    static void alike(String what, Past past, Past other) {
        try {
            sameLines(what, Portrait.of(past), Portrait.of(other));
        } catch (RuntimeException e) {
            same(what, "throws." + e.getClass().getSimpleName() + " while it lives", "no exception");
        }
    }

    private static void sameLines(String what, List<String> got, List<String> want) {
        for (int i = 0; i < got.size() && i < want.size(); i++) {
            if (!got.get(i).equals(want.get(i))) {
                same(what, got.get(i), want.get(i));
                return;
            }
        }
        same(what, got.size() + " answers", want.size() + " answers");
    }

    static void same(String what, String got, String want) {
        asked++;
        if (!got.equals(want)) {
            wrong++;
            if (wrong <= REPORTED_AT_MOST) {
                System.out.println(under + what + " answered " + got + ", due is " + want);
            }
        }
    }

    static void end() {
        System.out.println(asked + " answers, " + wrong + " of them not as due");
        if (wrong != 0 || asked == 0) {
            System.exit(1);
        }
    }
}
