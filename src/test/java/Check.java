/** Counts what was checked, and prints every answer that is not the one that is due. */
final class Check {
    interface Call {
        Object answer();
    }

    private final String title;
    private int checked;
    private int wrong;

    Check(String title) {
        this.title = title;
    }

    /** What a call answers; of an exception the exact class, so that one of the machine's own is told apart. */
    static String outcome(Call call) {
        try {
            return String.valueOf(call.answer());
        } catch (RuntimeException e) {
            return "throws." + e.getClass().getName();
        }
    }

    void is(String what, Object got, Object want) {
        checked++;
        if (!String.valueOf(got).equals(String.valueOf(want))) {
            wrong++;
            System.out.println(title + ": " + what + ": " + got + ", due is " + want);
        }
    }

    void index(String what, Call call) {
        is(what, outcome(call), "throws.java.lang.IndexOutOfBoundsException");
    }

    void argument(String what, Call call) {
        is(what, outcome(call), "throws.java.lang.IllegalArgumentException");
    }

    void state(String what, Call call) {
        is(what, outcome(call), "throws.java.lang.IllegalStateException");
    }

    int wrong() {
        return wrong;
    }

    void end() {
        System.out.println(title + ": " + checked + " checked, " + wrong + " wrong");
        if (wrong > 0) {
            System.exit(1);
        }
    }
}
