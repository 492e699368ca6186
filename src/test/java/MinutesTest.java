/** "Minutes" and "Maintenance", and promises 12 to 14, 18 and 26. */
public final class MinutesTest extends Check {
    private static final int[] FAR = {LEAST, LEAST + 1, MOST - 1, MOST};

    /** 0 over 1 and 4, 1 over 2, and 3 alone, in the minute 10. */
    private static Page page(String... words) {
        Page page = new Page(words);
        for (int parent : new int[] {-1, 0, 1, -1, 0}) {
            page.does("addComponent", parent, 1, 'w');
        }
        return page.does("pass", 10);
    }

    /** The same page in its last minute. */
    private static Page lastMinute(String... words) {
        Page page = page(words);
        for (int i = 0; i < 16; i++) {
            page.does("pass", 600);
        }
        return page.does("pass", 389).answers(9999, "minute");
    }

    private static void firstMinute() {
        new Page("The present minute is 0 at first.").answers(0, "minute").does("addComponent", -1, 1, 'w').does("report", 0, 1, 0).does("maintain", 0, 0, 1).answers(0, "minute");
    }

    private static void minutesToPass() {
        Page page = new Page("`minutes`: the number of minutes, 1 to 600", "Throws `IllegalArgumentException` if the number is out of range", "Returns the present minute after the call.");
        for (int minutes : new int[] {LEAST, LEAST + 1, -600, -1, 0, 601, 602, 10000, MOST - 1, MOST}) {
            page.refuses(RANGE, "pass", minutes);
        }
        page.answers(1, "pass", 1).answers(1, "minute").answers(601, "pass", 600).answers(601, "minute").answers(603, "pass", 2).answers(1202, "pass", 599);
    }

    private static void lastMinuteOfAll() {
        Page page = new Page("Throws `IllegalStateException` if the present minute would be greater than 9999");
        for (int i = 1; i <= 16; i++) {
            page.answers(600 * i, "pass", 600);
        }
        page.refuses(STATE, "pass", 400).refuses(STATE, "pass", 401).refuses(STATE, "pass", 600).refuses(RANGE, "pass", 601).refuses(RANGE, "pass", 0);
        page.copy().answers(9999, "pass", 399).answers(9999, "minute").refuses(STATE, "pass", 1).refuses(STATE, "pass", 2).refuses(STATE, "pass", 600);
        page.answers(9998, "pass", 398).refuses(STATE, "pass", 2).answers(9999, "pass", 1).refuses(STATE, "pass", 1).refuses(RANGE, "pass", 0).refuses(RANGE, "pass", MOST);
    }

    private static void firstMinuteOfMaintenance() {
        Page page = page("`from`: the first minute, not before the present one, up to 9999", "Throws `IllegalArgumentException` if the first minute is out of range, or the other one is not greater or out of range");
        for (int from : new int[] {-1, 0, 8, 9, 10000, 10001}) {
            page.refuses(RANGE, "maintain", 0, from, 10000).refuses(RANGE, "maintain", 0, from, from + 1);
        }
        for (int from : FAR) {
            page.refuses(RANGE, "maintain", 0, from, 10000).refuses(RANGE, "maintain", 0, from, MOST);
        }
        page.answers(0, "maintain", 3, 10, 11).answers(true, "isExcused", 3, 10).answers(1, "maintain", 3, 9999, 10000).answers(true, "isExcused", 3, 9999);
        page.does("pass", 1).refuses(RANGE, "maintain", 3, 10, 12).answers(2, "maintain", 3, 11, 12);
        new Page("not before the present one").does("addComponent", -1, 1, 'w').refuses(RANGE, "maintain", 0, -1, 1).answers(0, "maintain", 0, 0, 1);
    }

    private static void endOfMaintenance() {
        Page page = page("`to`: the minute behind its last one, up to 10000", "Throws `IllegalArgumentException` if the first minute is out of range, or the other one is not greater or out of range");
        for (int to : new int[] {-1, 0, 10, 49, 50, 10001, 10002}) {
            page.refuses(RANGE, "maintain", 0, 50, to);
        }
        for (int to : FAR) {
            page.refuses(RANGE, "maintain", 0, 50, to).refuses(RANGE, "maintain", 0, 9999, to);
        }
        page.answers(0, "maintain", 3, 50, 51).answers(false, "isExcused", 3, 49).answers(true, "isExcused", 3, 50).answers(false, "isExcused", 3, 51);
        page.refuses(RANGE, "maintain", 0, 9999, 9999).refuses(RANGE, "maintain", 0, 9999, 10001);
        page.answers(1, "maintain", 4, 60, 10000).answers(false, "isExcused", 4, 59).answers(true, "isExcused", 4, 60).answers(true, "isExcused", 4, 9999);
        lastMinute("up to 10000").refuses(RANGE, "maintain", 0, 9998, 10000).refuses(RANGE, "maintain", 0, 10000, 10001)
            .answers(0, "maintain", 0, 9999, 10000).answers(true, "isExcused", 2, 9999).answers(1, "callOff", 0).answers(false, "isExcused", 2, 9999);
        new Page("up to 10000").does("addComponent", -1, 1, 'w').answers(0, "maintain", 0, 0, 10000).answers(true, "isExcused", 0, 0)
            .answers(true, "isExcused", 0, 9999).answers(10000, "callOff", 0);
    }

    private static void atMostEight() {
        Page page = page("At most 8 times of maintenance have numbers from 0.");
        for (int m = 0; m < 8; m++) {
            page.refuses(MISSING, "callOff", m).answers(m, "maintain", m % 5, 20 + m, 40 + m);
        }
        page.refuses(STATE, "maintain", 0, 20, 30).refuses(STATE, "maintain", 3, 9999, 10000).refuses(MISSING, "callOff", 8);
        page.answers(20, "callOff", 7).answers(20, "callOff", 0);
    }

    /** "whatever has a number counts" */
    private static void endedOnesCount() {
        Page page = page("Throws `IllegalStateException` if there are 8 times of maintenance");
        for (int m = 0; m < 8; m++) {
            page.does("maintain", 0, 10 + m, 20);
        }
        page.does("callOff", 7).refuses(STATE, "maintain", 0, 10, 30).does("callOff", 0).refuses(STATE, "maintain", 0, 10, 30);
        page.does("pass", 15).refuses(STATE, "maintain", 0, 25, 30);
        for (int m = 0; m < 8; m++) {
            page.refuses(STATE, "callOff", m);
        }
        page = page("Throws `IllegalStateException` if there are 8 times of maintenance");
        for (int m = 0; m < 8; m++) {
            page.answers(m, "maintain", 0, 10, 20).answers(10, "callOff", m);
        }
        page.refuses(STATE, "maintain", 0, 10, 20);
    }

    private static void itsMinutes() {
        Page page = page("Each one is for a component, from a minute on up to the one ahead of another one.");
        page.does("maintain", 3, 20, 30).answers(false, "isExcused", 3, 19).answers(true, "isExcused", 3, 20).answers(true, "isExcused", 3, 29).answers(false, "isExcused", 3, 30);
        page.does("maintain", 3, 30, 31).answers(true, "isExcused", 3, 30).answers(false, "isExcused", 3, 31);
        // what is past stays excused
        page.does("pass", 100).answers(true, "isExcused", 3, 20).answers(true, "isExcused", 3, 30).answers(false, "isExcused", 3, 19).answers(false, "isExcused", 3, 31);
    }

    private static void whoIsExcused() {
        boolean[][] due = {{true, true, true, false, true}, {false, true, true, false, false}, {false, false, true, false, false},
            {false, false, false, true, false}, {false, false, false, false, true}};
        for (int of = 0; of < 5; of++) {
            Page page = page("A component is excused in a minute of it if the maintenance is for it or for a component that it is below.").does("maintain", of, 20, 21);
            for (int c = 0; c < 5; c++) {
                page.answers(due[of][c], "isExcused", c, 20).answers(false, "isExcused", c, 19).answers(false, "isExcused", c, 21);
            }
        }
        page("for a component that it is below").does("maintain", 2, 20, 30).does("addComponent", 2, 1, 's').answers(true, "isExcused", 5, 20).answers(true, "isExcused", 5, 29);
    }

    private static void deepestExcuse() {
        Page page = new Page("for a component that it is below");
        for (int c = 0; c < 12; c++) {
            page.does("addComponent", c - 1, 1, 'w');
        }
        page.does("maintain", 0, 5, 6).does("maintain", 11, 8, 9);
        for (int c = 0; c < 12; c++) {
            page.answers(true, "isExcused", c, 5).answers(c == 11, "isExcused", c, 8);
        }
    }

    private static void minuteOfAnExcuse() {
        Page page = page("`minute`: the minute, 0 to 9999", "Throws `IllegalArgumentException` if the minute is out of range");
        page.answers(false, "isExcused", 0, 0).answers(false, "isExcused", 0, 9999).does("maintain", 0, 10, 10000).answers(true, "isExcused", 0, 9999);
        for (int c = 0; c < 5; c++) {
            for (int minute : new int[] {LEAST, LEAST + 1, -2, -1, 10000, 10001, MOST - 1, MOST}) {
                page.refuses(RANGE, "isExcused", c, minute);
            }
        }
        new Page("`minute`: the minute, 0 to 9999").does("addComponent", -1, 1, 'w').does("maintain", 0, 0, 1).answers(true, "isExcused", 0, 0).answers(false, "isExcused", 0, 1);
    }

    private static void callingOff() {
        Page page = page("Calls maintenance off: it has no minutes any more.", "Returns the number of minutes that it had.");
        page.does("maintain", 0, 10, 40).does("maintain", 0, 12, 15).does("maintain", 0, 20, 10000).answers(30, "callOff", 0);
        page.answers(false, "isExcused", 0, 10).answers(false, "isExcused", 2, 11).answers(true, "isExcused", 2, 12).answers(false, "isExcused", 2, 15).answers(true, "isExcused", 2, 20);
        page.answers(9980, "callOff", 2).answers(false, "isExcused", 0, 20).answers(false, "isExcused", 0, 9999).answers(3, "callOff", 1).answers(false, "isExcused", 0, 12);
        page.does("maintain", 0, 9999, 10000).answers(1, "callOff", 3);
    }

    private static void begun() {
        Page page = page("Throws `IllegalStateException` if it has begun, that is, if its first minute is past; or if it has no minutes");
        page.does("maintain", 0, 10, 40).does("maintain", 0, 10, 11).does("maintain", 0, 11, 12);
        page.copy().answers(30, "callOff", 0).refuses(STATE, "callOff", 0).answers(1, "callOff", 1).refuses(STATE, "callOff", 1);
        page.does("pass", 1).refuses(STATE, "callOff", 0).refuses(STATE, "callOff", 1).copy().answers(1, "callOff", 2).refuses(STATE, "callOff", 2);
        page.does("pass", 1).refuses(STATE, "callOff", 2).does("pass", 100).refuses(STATE, "callOff", 0).refuses(STATE, "callOff", 1);
        page.answers(true, "isExcused", 0, 39).answers(true, "isExcused", 0, 10);
        page.does("maintain", 0, 200, 201).answers(1, "callOff", 3).does("pass", 200).refuses(STATE, "callOff", 3);
        // called off in the minute 0, from the minute 0 on
        new Page("or if it has no minutes").does("addComponent", -1, 1, 'w').does("maintain", 0, 0, 5).answers(5, "callOff", 0).refuses(STATE, "callOff", 0)
            .answers(false, "isExcused", 0, 0).does("maintain", 0, 0, 5).does("pass", 1).refuses(STATE, "callOff", 1).answers(true, "isExcused", 0, 0);
    }

    private static void noSuchMaintenance() {
        Page page = page("Throws `NoSuchElementException` if there is no such maintenance").does("maintain", 0, 20, 30).does("maintain", 0, 40, 60);
        for (int m : new int[] {LEAST, LEAST + 1, -2, -1, 2, 3, 7, 8, MOST - 1, MOST}) {
            page.refuses(MISSING, "callOff", m);
        }
        page.answers(20, "callOff", 1).answers(10, "callOff", 0);
    }

    private static void noSuchComponent() {
        Page page = page("Throws `NoSuchElementException` if there is no such component").does("maintain", 0, 20, 30);
        for (int c : new int[] {LEAST, LEAST + 1, -2, -1, 5, 6, 11, 12, 31, 32, MOST - 1, MOST}) {
            page.refuses(MISSING, "maintain", c, 20, 30).refuses(MISSING, "isExcused", c, 25);
        }
    }

    public static void main(String[] args) {
        firstMinute();
        minutesToPass();
        lastMinuteOfAll();
        firstMinuteOfMaintenance();
        endOfMaintenance();
        atMostEight();
        endedOnesCount();
        itsMinutes();
        whoIsExcused();
        deepestExcuse();
        minuteOfAnExcuse();
        callingOff();
        begun();
        noSuchMaintenance();
        noSuchComponent();
        end("MinutesTest");
    }
}
