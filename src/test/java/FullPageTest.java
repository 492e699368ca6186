/** A page with as many components, people, incidents and times of maintenance as there may be. */
public final class FullPageTest extends Check {
    /** 0 over 1 to 5, the others in a chain below 5, each person reading two, each leaf with incidents, in the minute 30. */
    private static Page page(String words) {
        Page page = new Page(words);
        for (int c = 0; c < 12; c++) {
            page.answers(c, "addComponent", c == 0 ? -1 : c < 6 ? 0 : c - 1, c % 9 + 1, c % 2 == 0 ? 'w' : 's');
        }
        for (int p = 0; p < 6; p++) {
            page.answers(p, "addPerson", p % 3 + 1).answers(1, "subscribe", p, p).answers(2, "subscribe", p, 11 - p);
        }
        for (int m = 0; m < 8; m++) {
            page.answers(m, "maintain", m, 10 + m, 40 + m);
        }
        page.does("pass", 30);
        for (int i = 0; i < 20; i++) {
            page.answers(i, "report", i % 5 == 0 ? 11 : i % 5, i % 3 + 1, i);
        }
        return page;
    }

    private static void counts() {
        page("At most 12 components have numbers from 0.").answers(12, "components").refuses(STATE, "addComponent", -1, 1, 'w').answers(12, "components");
        page("At most 6 people have numbers from 0.").answers(6, "people").refuses(STATE, "addPerson", 1).answers(6, "people");
        page("At most 20 incidents have numbers from 0.").answers(20, "incidents").refuses(STATE, "report", 11, 1, 0).answers(20, "incidents").answers(20, "open").answers(20, "cases");
        page("At most 8 times of maintenance have numbers from 0.").refuses(STATE, "maintain", 11, 50, 60).refuses(MISSING, "callOff", 8);
    }

    private static void lastComponent() {
        Page page = page("At most 12 components have numbers from 0.");
        page.answers(6 + 1, "depth", 11).answers(1, "leaves", 11).answers(false, "isGroup", 11).answers(true, "isGroup", 10).answers(11, "belowAt", 11, 0);
        page.answers(11, "belowAt", 0, 11).refuses(INDEX, "belowAt", 0, 12).answers(11, "pathAt", 11, 7).answers(0, "pathAt", 11, 0).refuses(INDEX, "pathAt", 11, 8);
        page.answers('m', "state", 11).answers('d', "stateAt", 11, 0).answers('u', "stateAt", 1, 0).answers(true, "isExcused", 11, 40).answers(false, "isExcused", 11, 47);
        page.answers(3, "setWeight", 11, 9).answers(9, "setWeight", 11, 3).answers(10, "counted", 11, 0).answers(5, "leaves", 0);
        // its incidents are 0 from 0 on, 5 from 5 on with a greater level, and later ones
        page.answers((5 * 75 + 5 * 0) * 100 / 10, "uptime", 11, 0).answers(3750, "uptimeByMinutes", 11, 0).answers(20.0f / 30.0f, "excusedShare", 11);
        for (String name : new String[] {"isGroup", "depth", "leaves", "state", "weightedLoss", "excusedShare"}) {
            page.refuses(MISSING, name, 12).refuses(MISSING, name, -1);
        }
        for (String name : new String[] {"setWeight", "belowAt", "pathAt", "stateAt", "isExcused", "counted", "uptime", "uptimeByMinutes"}) {
            page.refuses(MISSING, name, 12, 1).refuses(MISSING, name, -1, 1);
        }
        page.refuses(MISSING, "addComponent", 12, 1, 'w').refuses(MISSING, "report", 12, 1, 0).refuses(MISSING, "maintain", 12, 50, 60);
        page.refuses(MISSING, "subscribe", 0, 12).refuses(MISSING, "unsubscribe", 0, 12).refuses(KIND, "addComponent", 11, 1, 'w');
    }

    private static void lastPerson() {
        Page page = page("At most 6 people have numbers from 0.");
        page.answers(2, "subscriptions", 5).answers(3, "subscribe", 5, 0).refuses(STATE, "subscribe", 5, 5).answers(2, "unsubscribe", 5, 6).refuses(STATE, "unsubscribe", 5, 11);
        for (String name : new String[] {"subscriptions", "mailsTo"}) {
            page.refuses(MISSING, name, 6).refuses(MISSING, name, -1);
        }
        page.refuses(MISSING, "subscribe", 6, 0).refuses(MISSING, "unsubscribe", 6, 5).refuses(MISSING, "subscribe", -1, 0);
        for (int c = 0; c < 12; c++) {
            if (c != 0 && c != 5) {
                page.does("subscribe", 5, c);
            }
        }
        page.answers(12, "subscriptions", 5);
    }

    private static void lastIncident() {
        Page page = page("At most 20 incidents have numbers from 0.");
        page.answers(2, "levelOf", 19).answers(19, "startOf", 19).answers(-1, "endOf", 19).answers(19, "caseOf", 19).answers(11, "caseMinutes", 19).answers(2, "nextIncident");
        page.copy().answers(11, "resolve", 19, 30).answers(30, "endOf", 19).answers(19, "open").refuses(STATE, "resolve", 19, 30);
        page.copy().answers(2, "correct", 19, 3, 0).answers(0, "startOf", 19).answers(19, "nextIncident").refuses(RANGE, "correct", 19, 3, 31);
        page.copy().answers(19, "withdraw", 19).answers(19, "endOf", 19).refuses(STATE, "withdraw", 19).answers(20, "incidents");
        page.copy().answers(2, "join", 19, 18).answers(18, "caseOf", 19).answers(12, "caseMinutes", 19).answers(19, "cases").refuses(STATE, "join", 19, 18);
        for (String name : new String[] {"withdraw", "levelOf", "startOf", "endOf", "caseOf", "caseMinutes"}) {
            page.refuses(MISSING, name, 20).refuses(MISSING, name, -1);
        }
        page.refuses(MISSING, "resolve", 20, 30).refuses(MISSING, "correct", 20, 1, 0).refuses(MISSING, "join", 20, 0).refuses(MISSING, "join", 19, 20);
    }

    private static void lastMaintenance() {
        Page page = new Page("At most 8 times of maintenance have numbers from 0.").does("addComponent", -1, 1, 'w');
        for (int m = 0; m < 8; m++) {
            page.does("maintain", 0, 10 * m + 5, 10 * m + 8);
        }
        page.answers(true, "isExcused", 0, 75).answers(true, "isExcused", 0, 77).answers(false, "isExcused", 0, 78).refuses(MISSING, "callOff", 8).refuses(MISSING, "callOff", -1);
        page.copy().answers(3, "callOff", 7).answers(false, "isExcused", 0, 75).answers(true, "isExcused", 0, 67).refuses(STATE, "callOff", 7).refuses(STATE, "maintain", 0, 75, 78);
        page.does("pass", 100).answers(76, "counted", 0, 0).answers(0.24f, "excusedShare", 0).answers(10000, "uptime", 0, 0).refuses(STATE, "callOff", 7);
    }

    /** Every answer of a full page, against the model of the document. */
    private static void allAnswers() {
        Page page = page("A status page");
        for (int i = 0; i < 20; i++) {
            page.does("correct", i, (i + 1) % 3 + 1, 29 - i);
        }
        for (int i = 0; i < 20; i += 3) {
            page.does("resolve", i, 30).does("join", i, 19 - i);
        }
        page.does("withdraw", 4).does("withdraw", 6).does("pass", 600);
        for (int i = 1; i < 20; i += 4) {
            page.does("correct", i, i % 3 + 1, i % 2 == 0 ? 5 : 10);
        }
        for (int later = 0; later < 3; later++) {
            same("the full page " + later, Fingerprint.of(Statusboard.class, page.changes(), page.changes()), Fingerprint.of(Model.class, page.changes(), page.changes()));
            page.does("pass", 470);
        }
    }

    public static void main(String[] args) {
        counts();
        lastComponent();
        lastPerson();
        lastIncident();
        lastMaintenance();
        allAnswers();
        end("FullPageTest");
    }
}
