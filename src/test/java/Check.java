/** Counts the answers that are not as due; a test ends with end(). */
final class Check {
    private static int wrong = 0;
    private static int checks = 0;
    private static String part = "";

    private Check() {
    }

    static void part(String name) {
        part = name;
    }

    static void same(String what, long got, long due) {
        checks++;
        if (got != due) {
            wrong++;
            System.out.println(part + ": " + what + " answered " + got + ", due is " + due);
        }
    }

    static void holds(String what, boolean got) {
        same(what, got ? 1 : 0, 1);
    }

    /** A call whose answer or exception is looked at. */
    interface Call {
        void run();
    }

    /** The call must throw exactly this class. */
    static void throwsOf(String what, Class<? extends RuntimeException> due, Call call) {
        checks++;
        String got = "nothing";
        try {
            call.run();
        } catch (RuntimeException e) {
            got = e.getClass().getName();
        }
        if (!got.equals(due.getName())) {
            wrong++;
            System.out.println(part + ": " + what + " threw " + got + ", due is " + due.getName());
        }
    }

    static void end() {
        System.out.println(checks + " checks, " + wrong + " wrong");
        if (wrong != 0) {
            System.exit(1);
        }
    }
}
