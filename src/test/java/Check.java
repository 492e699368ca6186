import java.util.NoSuchElementException;
import java.util.function.Supplier;

/** Counts answers that are not due; each test is below it and ends with end(). */
abstract class Check {
    static final Class<?> MISSING = NoSuchElementException.class;
    static final Class<?> RANGE = IllegalArgumentException.class;
    static final Class<?> KIND = UnsupportedOperationException.class;
    static final Class<?> STATE = IllegalStateException.class;
    static final Class<?> INDEX = IndexOutOfBoundsException.class;
    static final Class<?> DIVISION = ArithmeticException.class;
    static final int LEAST = Integer.MIN_VALUE;
    static final int MOST = Integer.MAX_VALUE;

    private static final int MOST_SECONDS = 300;

    private static int wrong = 0;
    private static int checked = 0;

    static {
        watch();
    }

    /** A call that does not end is a wrong one, too. */
    private static void watch() {
        Thread watch = new Thread(() -> {
            try {
                Thread.sleep(1000L * MOST_SECONDS);
            } catch (InterruptedException e) {
                return;
            }
            System.out.println("a call does not end");
            Runtime.getRuntime().halt(1);
        });
        watch.setDaemon(true);
        watch.start();
    }

    static void same(String what, Object got, Object want) {
        same(() -> what, got, want);
    }

    /** The text is only made for a wrong answer, and only the first ones are told. */
    static void same(Supplier<String> what, Object got, Object want) {
        checked++;
        if (!want.equals(got)) {
            wrong++;
            if (wrong <= 20) {
                System.out.println(what.get() + " answered " + got + ", due is " + want);
            }
        }
    }

    static void end(String name) {
        System.out.println(name + ": " + checked + " checks, " + wrong + " wrong");
        if (wrong != 0 || checked == 0) {
            System.exit(1);
        }
    }
}
