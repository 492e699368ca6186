import java.util.NoSuchElementException;

/** Promises 28 to 30, 47 and 48: uptime by months, excused shares, means. */
public final class UptimeTest {
    private static final Class<?> NONE = NoSuchElementException.class;
    private static final Class<?> RANGE = IllegalArgumentException.class;
    private static final Class<?> STATE = IllegalStateException.class;
    private static final Class<?> DIVISION = ArithmeticException.class;

    private static void uptimes(Statusboard b, int component, int month, int due) {
        Check.same("uptime " + component + " " + month, b.uptime(component, month), due);
        Check.same("uptimeByMinutes " + component + " " + month, b.uptimeByMinutes(component, month), due);
    }

    private static void noUptime(Statusboard b, int component, int month) {
        Check.same("counted " + component + " " + month, b.counted(component, month), 0);
        Check.refuses("uptime", b, STATE, () -> b.uptime(component, month));
        Check.refuses("uptimeByMinutes", b, STATE, () -> b.uptimeByMinutes(component, month));
    }

    private static void readme() {
        Statusboard b = new Statusboard();
        int site = b.addComponent(-1, 1, 'w');
        int shop = b.addComponent(site, 3, 's');
        int reader = b.addPerson(1);
        b.subscribe(reader, site);
        b.pass(10);
        int incident = b.report(shop, 2, 4);
        Check.same("README's state", b.state(site), 'p');
        Check.same("README's mail", b.mailComponent(0), site);
        b.resolve(incident, 9);
        uptimes(b, site, 0, 7500);
    }

    private static void pastMinutes() {
        Statusboard b = new Statusboard();
        b.addComponent(-1, 1, 'w');
        noUptime(b, 0, 0);
        b.report(0, 3, 0);
        noUptime(b, 0, 0);
        b.pass(1);
        Check.same("one past minute", b.counted(0, 0), 1);
        uptimes(b, 0, 0, 0);
        b.resolve(0, 1);
        b.pass(2);
        Check.same("three past minutes", b.counted(0, 0), 3);
        uptimes(b, 0, 0, 6666);
        b.correct(0, 1, 0);
        uptimes(b, 0, 0, 9166);
        b.pass(597);
        Check.same("a whole month", b.counted(0, 0), 600);
        noUptime(b, 0, 1);
        b.pass(1);
        Check.same("one minute of the next month", b.counted(0, 1), 1);
        Check.same("the month before stays", b.counted(0, 0), 600);
        uptimes(b, 0, 1, 10000);
        uptimes(b, 0, 0, 9995);
        noUptime(b, 0, 16);
    }

    private static void overMonths() {
        Statusboard b = new Statusboard();
        b.addComponent(-1, 1, 'w');
        for (int i = 0; i < 16; i++) {
            b.pass(600);
        }
        b.pass(399);
        b.report(0, 2, 599);
        b.resolve(0, 1201);
        b.report(0, 3, 9998);
        uptimes(b, 0, 0, 9991);
        uptimes(b, 0, 1, 5000);
        uptimes(b, 0, 2, 9991);
        uptimes(b, 0, 3, 10000);
        Check.same("the last month", b.counted(0, 16), 399);
        uptimes(b, 0, 16, 9974);
    }

    private static void excusedMinutes() {
        Statusboard b = new Statusboard();
        b.addComponent(-1, 1, 'w');
        b.addComponent(0, 1, 'w');
        b.addComponent(0, 1, 'w');
        b.maintain(1, 10, 20);
        b.maintain(1, 15, 30);
        b.maintain(2, 40, 700);
        b.maintain(0, 590, 1200);
        b.pass(50);
        b.report(1, 3, 25);
        Check.same("overlapping maintenance counts once", b.counted(1, 0), 30);
        Check.same("a group is not excused by its children", b.counted(0, 0), 50);
        Check.same("excused at its end", b.counted(2, 0), 40);
        uptimes(b, 1, 0, 3333);
        uptimes(b, 0, 0, 5000);
        uptimes(b, 2, 0, 10000);
        Check.same("the share of two", b.excusedShare(1), 0.4f);
        Check.same("the share of none", b.excusedShare(0), 0.0f);
        Check.same("the share of the end", b.excusedShare(2), 0.2f);
        Check.same("the mean of three", b.meanUptime(0), 18333.0 / 3.0);
        b.pass(600);
        Check.same("all below are excused", b.counted(1, 0), 570);
        noUptime(b, 0, 1);
        noUptime(b, 2, 1);
        Check.refuses("no uptimes", b, DIVISION, () -> b.meanUptime(1));
        b.pass(600);
        Check.same("behind the maintenance", b.counted(0, 2), 50);
        Check.same("a share of months", b.excusedShare(0), 610.0f / 1250.0f);
        Check.same("a share of both", b.excusedShare(2), 1160.0f / 1250.0f);
    }

    private static void means() {
        Statusboard b = new Statusboard();
        Check.refuses("no components", b, DIVISION, () -> b.meanUptime(0));
        b.addComponent(-1, 1, 'w');
        b.addComponent(-1, 1, 'w');
        b.addComponent(-1, 1, 'w');
        b.maintain(2, 0, 7);
        Check.refuses("no past minutes", b, DIVISION, () -> b.meanUptime(0));
        Check.refuses("no past minutes for a share", b, DIVISION, () -> b.excusedShare(2));
        b.pass(7);
        b.report(0, 1, 5);
        Check.same("the mean of two", b.meanUptime(0), 19285.0 / 2.0);
        Check.same("all minutes excused", b.excusedShare(2), 1.0f);
        b.pass(1);
        Check.same("the mean of three", b.meanUptime(0), (9062.0 + 10000.0 + 10000.0) / 3.0);
        Check.same("seven of eight", b.excusedShare(2), 0.875f);
        b.pass(1);
        Check.same("a share that is rounded", b.excusedShare(2), 7.0f / 9.0f);
    }

    private static void wrongArguments() {
        Statusboard b = new Statusboard();
        b.addComponent(-1, 1, 'w');
        for (int pass = 0; pass < 2; pass++) {
            for (int month : new int[] {-1, 17, Integer.MAX_VALUE, Integer.MIN_VALUE}) {
                Check.refuses("counted", b, RANGE, () -> b.counted(0, month));
                Check.refuses("uptime", b, RANGE, () -> b.uptime(0, month));
                Check.refuses("uptimeByMinutes", b, RANGE, () -> b.uptimeByMinutes(0, month));
                Check.refuses("meanUptime", b, RANGE, () -> b.meanUptime(month));
            }
            for (int c : new int[] {-1, 1, Integer.MAX_VALUE, Integer.MIN_VALUE}) {
                Check.refuses("counted", b, NONE, () -> b.counted(c, 17));
                Check.refuses("uptime", b, NONE, () -> b.uptime(c, 17));
                Check.refuses("uptimeByMinutes", b, NONE, () -> b.uptimeByMinutes(c, 17));
                Check.refuses("excusedShare", b, NONE, () -> b.excusedShare(c));
            }
            b.pass(5);
        }
    }

    public static void main(String[] args) {
        readme();
        pastMinutes();
        overMonths();
        excusedMinutes();
        means();
        wrongArguments();
        Check.end("UptimeTest");
    }
}
