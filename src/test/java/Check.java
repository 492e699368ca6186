/** Counts answers that are not due; each test ends with end(). */
final class Check {
    interface Call {
        Object answer();
    }

    private static int wrong = 0;
    private static int checked = 0;

    private Check() {
    }

    static void same(String what, Object got, Object want) {
        checked++;
        if (!want.equals(got)) {
            wrong++;
            System.out.println(what + " answered " + got + ", due is " + want);
        }
    }

    /** The call must throw just this class, by a throw statement of Statusboard, and change nothing. */
    static void refuses(String what, Statusboard board, Class<?> due, Call call) {
        String before = Snapshot.of(board);
        String thrown = "nothing";
        try {
            call.answer();
        } catch (RuntimeException e) {
            thrown = e.getClass().getName();
        }
        same(what + " throws", thrown, due.getName());
        same(what + " changes nothing", Snapshot.of(board), before);
    }

    static void end(String name) {
        System.out.println(name + ": " + checked + " checks, " + wrong + " wrong");
        if (wrong != 0 || checked == 0) {
            System.exit(1);
        }
    }
}
