/** Promise 1, and every call of a page with nothing in it. */
public final class NewPageTest extends Check {
    private static final String WORDS = "Creates a page without components and people, in the minute 0.";
    private static final int[] NUMBERS = {LEAST, LEAST + 1, -2, -1, 0, 1, 6, 8, 12, 20, MOST - 1, MOST};

    private static void counts() {
        Page page = new Page(WORDS);
        for (String name : new String[] {"components", "people", "incidents", "minute", "open", "cases", "mails"}) {
            page.answers(0, name);
        }
    }

    private static void nothingToChoose() {
        new Page(WORDS).refuses(MISSING, "worst").refuses(MISSING, "nextIncident");
    }

    private static void noComponents() {
        Page page = new Page(WORDS);
        for (int c : NUMBERS) {
            if (c != -1) {
                page.refuses(MISSING, "addComponent", c, 1, 'w').refuses(MISSING, "addComponent", c, 0, 'x');
            }
            page.refuses(MISSING, "setWeight", c, 1).refuses(MISSING, "setWeight", c, 10);
            page.refuses(MISSING, "report", c, 1, 0).refuses(MISSING, "report", c, 4, 1);
            page.refuses(MISSING, "maintain", c, 0, 1).refuses(MISSING, "maintain", c, -1, -1);
            for (String name : new String[] {"isGroup", "depth", "leaves", "state", "weightedLoss", "excusedShare"}) {
                page.refuses(MISSING, name, c);
            }
            for (String name : new String[] {"belowAt", "pathAt", "stateAt", "isExcused", "counted", "uptime", "uptimeByMinutes"}) {
                page.refuses(MISSING, name, c, 0).refuses(MISSING, name, c, -1);
            }
        }
    }

    private static void noPeople() {
        Page page = new Page(WORDS);
        for (int p : NUMBERS) {
            page.refuses(MISSING, "subscribe", p, 0).refuses(MISSING, "unsubscribe", p, 0);
            page.refuses(MISSING, "subscriptions", p).refuses(MISSING, "mailsTo", p);
        }
    }

    private static void noIncidentsAndNoMails() {
        Page page = new Page(WORDS);
        for (int i : NUMBERS) {
            page.refuses(MISSING, "resolve", i, 0).refuses(MISSING, "resolve", i, -1).refuses(MISSING, "correct", i, 1, 0);
            page.refuses(MISSING, "correct", i, 0, -1).refuses(MISSING, "join", i, 0).refuses(MISSING, "join", 0, i);
            for (String name : new String[] {"withdraw", "levelOf", "startOf", "endOf", "caseOf", "caseMinutes", "callOff"}) {
                page.refuses(MISSING, name, i);
            }
            for (String name : new String[] {"mailPerson", "mailComponent", "mailState", "mailMinute"}) {
                page.refuses(MISSING, name, i);
            }
        }
    }

    private static void noUptimes() {
        Page page = new Page(WORDS);
        for (int month = 0; month <= 16; month++) {
            page.refuses(DIVISION, "meanUptime", month);
        }
        page.refuses(RANGE, "meanUptime", -1).refuses(RANGE, "meanUptime", 17);
        page.does("pass", 600).does("pass", 1).refuses(DIVISION, "meanUptime", 0).refuses(DIVISION, "meanUptime", 1);
    }

    private static void firstNumbers() {
        new Page(WORDS).answers(0, "addComponent", -1, 9, 's').answers(0, "addPerson", 3).answers(0, "report", 0, 3, 0).answers(0, "maintain", 0, 0, 10000);
        new Page(WORDS).answers(1, "pass", 1);
        new Page(WORDS).answers(600, "pass", 600);
    }

    /** What is done to one object is not seen on another one. */
    private static void twoPages() {
        Statusboard one = new Statusboard();
        Statusboard other = new Statusboard();
        one.addComponent(-1, 3, 'w');
        one.addPerson(1);
        one.subscribe(0, 0);
        one.pass(5);
        one.report(0, 3, 2);
        one.maintain(0, 6, 9);
        other.addComponent(-1, 4, 's');
        other.addPerson(3);
        same("the other page's minute", other.minute(), 0);
        same("the other page's incidents", other.incidents(), 0);
        same("the other page's mails", other.mails(), 0);
        same("the other page's subscriptions", other.subscriptions(0), 0);
        same("the other page's state", other.state(0), 'u');
        same("the other page's maintenance", other.isExcused(0, 7), false);
        same("the other page's weight", other.setWeight(0, 1), 4);
        same("the first page's weight", one.setWeight(0, 1), 3);
        same("the first page's minute", one.minute(), 5);
    }

    public static void main(String[] args) {
        counts();
        nothingToChoose();
        noComponents();
        noPeople();
        noIncidentsAndNoMails();
        noUptimes();
        firstNumbers();
        twoPages();
        end("NewPageTest");
    }
}
