import java.util.NoSuchElementException;

/** Promises 12 to 14, 18 and 26: minutes that pass, and maintenance. */
public final class MinutesTest {
    private static final Class<?> NONE = NoSuchElementException.class;
    private static final Class<?> RANGE = IllegalArgumentException.class;
    private static final Class<?> STATE = IllegalStateException.class;

    /** 0 over 1 over 2, and 3 alone, in the minute 10. */
    private static Statusboard page() {
        Statusboard b = new Statusboard();
        for (int parent : new int[] {-1, 0, 1, -1}) {
            b.addComponent(parent, 1, 'w');
        }
        b.pass(10);
        return b;
    }

    private static void passing() {
        Statusboard b = new Statusboard();
        for (int minutes : new int[] {0, -1, 601, Integer.MAX_VALUE, Integer.MIN_VALUE}) {
            Check.refuses("minutes out of range", b, RANGE, () -> b.pass(minutes));
        }
        Check.same("one minute", b.pass(1), 1);
        Check.same("minute", b.minute(), 1);
        for (int i = 1; i <= 16; i++) {
            Check.same("600 minutes", b.pass(600), 600 * i + 1);
        }
        Check.refuses("to 10000", b, STATE, () -> b.pass(399));
        Check.refuses("far behind", b, STATE, () -> b.pass(600));
        Check.refuses("a range ahead of the end", b, RANGE, () -> b.pass(601));
        Check.same("to 9999", b.pass(398), 9999);
        Check.refuses("behind 9999", b, STATE, () -> b.pass(1));
        Check.refuses("a range at the end", b, RANGE, () -> b.pass(0));
        Check.same("minute", b.minute(), 9999);
    }

    private static void maintaining() {
        Statusboard b = page();
        for (int c : new int[] {-1, 4, Integer.MAX_VALUE, Integer.MIN_VALUE}) {
            Check.refuses("maintenance of nothing", b, NONE, () -> b.maintain(c, 0, 0));
        }
        for (int from : new int[] {9, -1, 10000, Integer.MAX_VALUE, Integer.MIN_VALUE}) {
            Check.refuses("a first minute out of range", b, RANGE, () -> b.maintain(0, from, 10000));
        }
        for (int to : new int[] {50, 49, -1, 10001, Integer.MAX_VALUE, Integer.MIN_VALUE}) {
            Check.refuses("a last minute out of range", b, RANGE, () -> b.maintain(0, 50, to));
        }
        Check.same("from now on", b.maintain(1, 10, 11), 0);
        Check.same("up to the end", b.maintain(3, 9999, 10000), 1);
        Check.same("excused at the end", b.isExcused(3, 9999), true);
        Check.same("not excused ahead of it", b.isExcused(3, 9998), false);
        for (int m = 2; m < 8; m++) {
            Check.same("up to eight", b.maintain(2, 20, 30), m);
        }
        Check.refuses("a ninth", b, STATE, () -> b.maintain(0, 20, 30));
        Check.refuses("a range ahead of a ninth", b, RANGE, () -> b.maintain(0, 20, 20));
        Check.refuses("a component ahead of a ninth", b, NONE, () -> b.maintain(4, 20, 30));
        b.callOff(4);
        Check.refuses("one that is called off still counts", b, STATE, () -> b.maintain(0, 20, 30));
    }

    private static void excused() {
        Statusboard b = page();
        b.maintain(1, 20, 30);
        boolean[] due = {false, true, true, false};
        for (int c = 0; c < 4; c++) {
            int component = c;
            Check.same("ahead of it " + c, b.isExcused(c, 19), false);
            Check.same("its first minute " + c, b.isExcused(c, 20), due[c]);
            Check.same("its last minute " + c, b.isExcused(c, 29), due[c]);
            Check.same("behind it " + c, b.isExcused(c, 30), false);
            for (int minute : new int[] {-1, 10000, Integer.MAX_VALUE, Integer.MIN_VALUE}) {
                Check.refuses("a minute out of range", b, RANGE, () -> b.isExcused(component, minute));
            }
        }
        b.addComponent(2, 1, 's');
        Check.same("one that is added below", b.isExcused(4, 25), true);
        for (int c : new int[] {-1, 5, Integer.MAX_VALUE, Integer.MIN_VALUE}) {
            Check.refuses("excuse of nothing", b, NONE, () -> b.isExcused(c, -1));
        }
        Check.same("the minute 0", b.isExcused(0, 0), false);
        Check.same("the minute 9999", b.isExcused(0, 9999), false);
    }

    private static void callingOff() {
        Statusboard b = page();
        b.maintain(0, 10, 40);
        b.maintain(0, 12, 15);
        b.maintain(0, 10, 20);
        Check.same("one that begins now", b.callOff(0), 30);
        Check.same("has no minutes", b.isExcused(2, 21), false);
        Check.same("the others stay", b.isExcused(2, 14), true);
        Check.refuses("twice", b, STATE, () -> b.callOff(0));
        b.pass(1);
        Check.refuses("one that has begun", b, STATE, () -> b.callOff(2));
        Check.same("one that has not begun", b.callOff(1), 3);
        Check.refuses("that one twice", b, STATE, () -> b.callOff(1));
        b.pass(100);
        Check.refuses("one that is over", b, STATE, () -> b.callOff(2));
        for (int m : new int[] {-1, 3, 8, Integer.MAX_VALUE, Integer.MIN_VALUE}) {
            Check.refuses("calling off nothing", b, NONE, () -> b.callOff(m));
        }
    }

    public static void main(String[] args) {
        passing();
        maintaining();
        excused();
        callingOff();
        Check.end("MinutesTest");
    }
}
