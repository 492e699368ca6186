import java.util.List;

/** "Uptime", and promises 28 to 30, 47 and 48: uptime by months, excused shares, means. */
public final class UptimeTest extends Check {
    private static Page leaf(String... words) {
        return new Page(words).does("addComponent", -1, 1, 'w');
    }

    /** The page some minutes later. */
    private static Page later(Page page, int minutes) {
        for (int left = minutes; left > 0; left -= 600) {
            page.does("pass", Math.min(left, 600));
        }
        return page;
    }

    private static void uptimes(Page page, int component, int month, int due) {
        page.answers(due, "uptime", component, month).answers(due, "uptimeByMinutes", component, month);
    }

    private static void noUptime(Page page, int component, int month) {
        page.answers(0, "counted", component, month).refuses(STATE, "uptime", component, month).refuses(STATE, "uptimeByMinutes", component, month);
    }

    private static void pastMinutes() {
        Page page = leaf("The past minutes are those from 0 up to the one ahead of the present one.");
        noUptime(page, 0, 0);
        page.refuses(DIVISION, "excusedShare", 0).does("report", 0, 3, 0);
        noUptime(page, 0, 0);
        page.does("pass", 1).answers(1, "counted", 0, 0).answers(1, "caseMinutes", 0).answers(0.0f, "excusedShare", 0);
        uptimes(page, 0, 0, 0);
        page.does("resolve", 0, 1).does("pass", 1).answers(2, "counted", 0, 0);
        uptimes(page, 0, 0, 5000);
        // the present minute does not count
        page.does("report", 0, 3, 2);
        uptimes(page, 0, 0, 5000);
        page.does("pass", 1).answers(3, "counted", 0, 0);
        uptimes(page, 0, 0, 3333);
    }

    private static void lengthOfAMonth() {
        Page page = later(leaf("A month has 600 minutes; the month 0 begins with the minute 0."), 599).answers(599, "counted", 0, 0);
        noUptime(page, 0, 1);
        page.does("pass", 1).answers(600, "counted", 0, 0);
        noUptime(page, 0, 1);
        page.does("pass", 1).answers(600, "counted", 0, 0).answers(1, "counted", 0, 1);
        uptimes(page, 0, 1, 10000);
        page.does("report", 0, 3, 600);
        uptimes(page, 0, 0, 10000);
        uptimes(page, 0, 1, 0);
        page.does("resolve", 0, 601).does("correct", 0, 3, 599);
        uptimes(page, 0, 0, 9983);
        uptimes(page, 0, 1, 0);
        page.does("pass", 598).answers(599, "counted", 0, 1).does("pass", 1).answers(600, "counted", 0, 1);
        noUptime(page, 0, 2);
        page.does("pass", 600).answers(600, "counted", 0, 1).answers(600, "counted", 0, 2).refuses(STATE, "uptime", 0, 3);
        uptimes(page, 0, 1, 9983);
    }

    private static void months() {
        Page page = leaf("`month`: the month, 0 to 16", "Throws `IllegalArgumentException` if the month is out of range");
        for (int month : new int[] {LEAST, LEAST + 1, -2, -1, 17, 18, MOST - 1, MOST}) {
            page.refuses(RANGE, "counted", 0, month).refuses(RANGE, "uptime", 0, month).refuses(RANGE, "uptimeByMinutes", 0, month).refuses(RANGE, "meanUptime", month);
        }
        for (int month = 0; month <= 16; month++) {
            noUptime(page, 0, month);
            page.refuses(DIVISION, "meanUptime", month);
        }
        later(page, 9999);
        for (int month = 0; month <= 16; month++) {
            page.answers(month < 16 ? 600 : 399, "counted", 0, month).answers(10000.0, "meanUptime", month);
            uptimes(page, 0, month, 10000);
        }
        // 600 times these is no int any more
        for (int month : new int[] {LEAST, -7158279, -3579139, -2, -1, 17, 18, 3579140, 7158279, 7158280, 14316558, MOST}) {
            page.refuses(RANGE, "counted", 0, month).refuses(RANGE, "uptime", 0, month).refuses(RANGE, "uptimeByMinutes", 0, month).refuses(RANGE, "meanUptime", month);
        }
    }

    private static void overMonths() {
        Page page = later(leaf("over these minutes, times 100, divided by their number and rounded down"), 9999);
        page.does("report", 0, 2, 599).does("resolve", 0, 1201).does("report", 0, 3, 9998);
        uptimes(page, 0, 0, 9991);
        uptimes(page, 0, 1, 5000);
        uptimes(page, 0, 2, 9991);
        uptimes(page, 0, 3, 10000);
        uptimes(page, 0, 15, 10000);
        uptimes(page, 0, 16, 9974);
        page.does("correct", 1, 3, 9999);
        uptimes(page, 0, 16, 10000);
        page.does("correct", 0, 3, 0);
        uptimes(page, 0, 0, 0);
        uptimes(page, 0, 2, 9983);
    }

    private static void fromAllToNothing() {
        Page page = later(leaf("rounded down: 10000 if it was always up."), 3);
        uptimes(page, 0, 0, 10000);
        page.does("report", 0, 1, 0);
        uptimes(page, 0, 0, 7500);
        page.does("correct", 0, 2, 0);
        uptimes(page, 0, 0, 5000);
        page.does("correct", 0, 3, 0);
        uptimes(page, 0, 0, 0);
        page.does("correct", 0, 3, 1);
        uptimes(page, 0, 0, 3333);
        page.does("correct", 0, 3, 2);
        uptimes(page, 0, 0, 6666);
        page.does("correct", 0, 1, 2);
        uptimes(page, 0, 0, 9166);
        page.does("correct", 0, 1, 3);
        uptimes(page, 0, 0, 10000);
        later(page.does("resolve", 0, 3).does("correct", 0, 1, 2), 597);
        uptimes(page, 0, 0, 9995);
    }

    private static void excusedMinutes() {
        Page page = leaf("The counted minutes of a component in a month are the past minutes of it in which the component is not excused.");
        page.does("addComponent", 0, 1, 'w').does("addComponent", 0, 1, 'w').does("maintain", 1, 10, 20).does("maintain", 1, 15, 30);
        page.does("maintain", 2, 40, 700).does("maintain", 0, 590, 1200).does("pass", 10).answers(10, "counted", 1, 0).does("pass", 1).answers(10, "counted", 1, 0);
        page.does("pass", 19).answers(10, "counted", 1, 0).does("pass", 1).answers(11, "counted", 1, 0).does("pass", 19).does("report", 1, 3, 25);
        page.answers(30, "counted", 1, 0).answers(50, "counted", 0, 0).answers(40, "counted", 2, 0);
        uptimes(page, 1, 0, 3333);
        uptimes(page, 0, 0, 5000);
        uptimes(page, 2, 0, 10000);
        later(page, 600).answers(570, "counted", 1, 0).answers(590, "counted", 0, 0).answers(40, "counted", 2, 0);
        for (int c = 0; c < 3; c++) {
            noUptime(page, c, 1);
        }
        page.refuses(DIVISION, "meanUptime", 1);
        later(page, 600).answers(50, "counted", 0, 2).answers(50, "counted", 2, 2).refuses(DIVISION, "meanUptime", 1);
    }

    private static void wholeMonthExcused() {
        Page page = leaf("Throws `IllegalStateException` if there are no counted minutes").does("addComponent", -1, 1, 'w');
        page.does("maintain", 0, 0, 600).does("maintain", 1, 1, 600);
        later(page, 1);
        noUptime(page, 0, 0);
        page.answers(1, "counted", 1, 0);
        later(page, 599);
        noUptime(page, 0, 0);
        uptimes(page, 1, 0, 10000);
        later(page, 1).answers(1, "counted", 0, 1);
        noUptime(page, 0, 0);
        uptimes(page, 0, 1, 10000);
        // a loss in an excused minute is none
        page.does("report", 0, 3, 0).does("report", 1, 3, 1).does("resolve", 1, 600);
        noUptime(page, 0, 0);
        uptimes(page, 1, 0, 10000);
        uptimes(page, 1, 1, 10000);
        uptimes(page, 0, 1, 0);
    }

    private static void excusedByItsEdges() {
        Page page = leaf("in which the component is not excused").does("maintain", 0, 4, 6).does("pass", 10).does("report", 0, 3, 3).does("resolve", 0, 4);
        page.answers(8, "counted", 0, 0);
        uptimes(page, 0, 0, 8750);
        page.does("correct", 0, 3, 4).does("report", 0, 3, 4).does("resolve", 1, 6);
        uptimes(page, 0, 0, 10000);
        page.does("report", 0, 3, 4).does("resolve", 2, 7);
        uptimes(page, 0, 0, 8750);
        page.does("correct", 2, 3, 3);
        uptimes(page, 0, 0, 7500);
    }

    private static void ofAGroup() {
        Page page = new Page("Its uptime is the sum of 100 minus the loss of its state, over these minutes");
        page.does("addComponent", -1, 1, 's').does("addComponent", 0, 1, 'w').does("addComponent", 0, 1, 'w').does("addComponent", 0, 1, 'w').does("pass", 10);
        page.does("report", 1, 3, 0).does("resolve", 0, 6).does("report", 2, 3, 4).does("resolve", 1, 8).does("report", 3, 1, 4);
        // 33 is 'd' with 25; from 4 on 75 is 'm'; from 6 on 41 is 'p'; from 8 on 8 is 'd'
        uptimes(page, 0, 0, (4 * 75 + 2 * 0 + 2 * 50 + 2 * 75) * 100 / 10);
        page.does("maintain", 1, 10, 20).does("pass", 1);
        uptimes(page, 0, 0, (4 * 75 + 2 * 50 + 3 * 75) * 100 / 11);
    }

    /** As many changes as there may be, with some at the edges of months, the last minute among them. */
    private static void sameByMinutes() {
        Page page = new Page("Uptime is found from the minutes at which something changes, and minute by minute.", "Returns the same as uptime, found minute by minute.");
        page.does("addComponent", -1, 1, 's').does("addComponent", 0, 1, 'w').does("addComponent", 0, 2, 'w').does("addComponent", 0, 3, 'w');
        for (int m = 0; m < 8; m++) {
            page.does("maintain", m % 4, 300 * m + m % 2, 300 * m + 7 * m + 1);
        }
        later(page, 2400);
        for (int i = 0; i < 20; i++) {
            page.does("report", i % 3 + 1, i % 3 + 1, 100 * i + i % 7 / 6).does("resolve", i, 100 * i + 11 * i);
        }
        page.does("correct", 19, 3, 1799);
        List<Call> calls = page.changes();
        for (int month = 0; month < 4; month++) {
            for (int c = 0; c < 4; c++) {
                String due = new Call("uptime", c, month).on(Fingerprint.replay(Model.class, calls));
                page.answers(due, "uptime", c, month).answers(due, "uptimeByMinutes", c, month);
            }
        }
    }

    private static void shares() {
        Page page = leaf("their number divided by that of all past minutes, both converted to float.");
        page.does("addComponent", 0, 1, 'w').does("addComponent", -1, 1, 'w').does("maintain", 0, 0, 1).does("maintain", 1, 0, 7).does("maintain", 1, 3, 8);
        page.does("pass", 1).answers(1.0f, "excusedShare", 0).answers(1.0f, "excusedShare", 1).answers(0.0f, "excusedShare", 2);
        page.does("pass", 1).answers(0.5f, "excusedShare", 0).answers(1.0f, "excusedShare", 1);
        page.does("pass", 1).answers(1.0f / 3.0f, "excusedShare", 0).does("pass", 5).answers(0.125f, "excusedShare", 0).answers(1.0f, "excusedShare", 1);
        page.does("pass", 1).answers(8.0f / 9.0f, "excusedShare", 1).answers(1.0f / 9.0f, "excusedShare", 0).answers(0.0f, "excusedShare", 2);
    }

    private static void sharesOfAllTime() {
        Page page = leaf("Returns the share of the past minutes in which a component is excused").does("addComponent", -1, 1, 'w').does("addComponent", -1, 1, 'w');
        page.does("maintain", 0, 0, 10000).does("maintain", 1, 9998, 10000).does("maintain", 2, 5, 6).does("callOff", 2);
        later(page, 9998).answers(1.0f, "excusedShare", 0).answers(0.0f, "excusedShare", 1).answers(0.0f, "excusedShare", 2);
        page.does("pass", 1).answers(1.0f, "excusedShare", 0).answers(1.0f / 9999.0f, "excusedShare", 1).answers(0.0f, "excusedShare", 2);
    }

    private static void noPastMinutes() {
        Page page = leaf("Throws `ArithmeticException` if there are no past minutes").refuses(DIVISION, "excusedShare", 0);
        page.does("maintain", 0, 0, 9).refuses(DIVISION, "excusedShare", 0).does("pass", 1).answers(1.0f, "excusedShare", 0);
    }

    private static void means() {
        Page page = leaf("the sum of the uptimes divided by their number, both converted to double.");
        page.does("addComponent", -1, 1, 'w').does("addComponent", -1, 1, 'w').does("maintain", 2, 0, 7).does("pass", 7).answers(10000.0, "meanUptime", 0);
        page.does("report", 0, 1, 5).answers(9642.5, "meanUptime", 0).does("pass", 1).answers((9062.0 + 10000.0 + 10000.0) / 3.0, "meanUptime", 0);
        page.does("report", 1, 3, 0).answers((9062.0 + 0.0 + 10000.0) / 3.0, "meanUptime", 0).does("report", 2, 3, 0).answers(9062.0 / 3.0, "meanUptime", 0);
        page.does("correct", 0, 3, 0).answers(0.0, "meanUptime", 0);
    }

    private static void meansOfGroups() {
        Page page = leaf("Returns the mean uptime in a month of all components that have counted minutes in it").does("addComponent", 0, 1, 'w').does("addComponent", 0, 1, 's');
        page.does("pass", 4).does("report", 2, 2, 3).answers((8750.0 + 10000.0 + 8750.0) / 3.0, "meanUptime", 0);
        // an uptime of 0 is one, no counted minutes are none
        page.does("correct", 0, 3, 0).answers(10000.0 / 3.0, "meanUptime", 0).does("maintain", 1, 4, 700);
        later(page, 597).answers(1, "counted", 0, 1).answers(0.0, "meanUptime", 1);
        noUptime(page, 1, 1);
    }

    private static void meanOfTwelve() {
        Page page = new Page("of all components that have counted minutes in it");
        for (int c = 0; c < 12; c++) {
            page.does("addComponent", -1, 1, 'w');
        }
        page.does("pass", 3).does("report", 11, 3, 0).answers(110000.0 / 12.0, "meanUptime", 0).does("report", 0, 1, 2).answers(109166.0 / 12.0, "meanUptime", 0);
    }

    private static void noMean() {
        Page page = new Page("Throws `ArithmeticException` if there are none").refuses(DIVISION, "meanUptime", 0).does("pass", 600).refuses(DIVISION, "meanUptime", 0);
        page.does("addComponent", -1, 1, 'w').answers(10000.0, "meanUptime", 0).refuses(DIVISION, "meanUptime", 1).refuses(DIVISION, "meanUptime", 16);
        page.does("maintain", 0, 600, 601).does("pass", 1).refuses(DIVISION, "meanUptime", 1).does("pass", 1).answers(10000.0, "meanUptime", 1);
    }

    private static void noSuchComponent() {
        Page page = leaf("Throws `NoSuchElementException` if there is no such component").does("addComponent", -1, 1, 'w').does("pass", 5);
        for (int c : new int[] {LEAST, LEAST + 1, -2, -1, 2, 3, 11, 12, 32, MOST - 1, MOST}) {
            page.refuses(MISSING, "excusedShare", c);
            for (String name : new String[] {"counted", "uptime", "uptimeByMinutes"}) {
                page.refuses(MISSING, name, c, 0).refuses(MISSING, name, c, 16).refuses(MISSING, name, c, 17).refuses(MISSING, name, c, -1);
            }
        }
    }

    public static void main(String[] args) {
        pastMinutes();
        lengthOfAMonth();
        months();
        overMonths();
        fromAllToNothing();
        excusedMinutes();
        wholeMonthExcused();
        excusedByItsEdges();
        ofAGroup();
        sameByMinutes();
        shares();
        sharesOfAllTime();
        noPastMinutes();
        means();
        meansOfGroups();
        meanOfTwelve();
        noMean();
        noSuchComponent();
        end("UptimeTest");
    }
}
