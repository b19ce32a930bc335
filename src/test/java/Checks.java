/** What the tests share: they report each answer that is not due, and end with 1 if there was one. */
final class Checks {
    private static int asked = 0;
    private static int wrong = 0;

    private Checks() {
    }

    interface Call {
        Object answer();
    }

    /** What the call answers, or the name of the exception that it throws, behind "throws.". */
    static String outcome(Call call) {
        try {
            return String.valueOf(call.answer());
        } catch (RuntimeException e) {
            return "throws." + e.getClass().getSimpleName();
        }
    }

    static void due(String what, Call call, Object want) {
        same(what, outcome(call), String.valueOf(want));
    }

    static void noPlace(String what, Call call) {
        due(what, call, "throws.IndexOutOfBoundsException");
    }

    static void badArgument(String what, Call call) {
        due(what, call, "throws.IllegalArgumentException");
    }

    static void badState(String what, Call call) {
        due(what, call, "throws.IllegalStateException");
    }

    static void same(String what, String got, String want) {
        asked++;
        if (!got.equals(want)) {
            wrong++;
            if (wrong <= 50) {
                System.out.println(what + " answered " + got + ", due is " + want);
            }
        }
    }

    static void end() {
        System.out.println(asked + " answers, " + wrong + " of them not as due");
        if (wrong != 0 || asked == 0) {
            System.exit(1);
        }
    }
}
