import java.io.IOException;
import java.nio.file.Files;
import java.nio.file.Path;
import java.util.ArrayList;
import java.util.List;
import java.util.regex.Matcher;
import java.util.regex.Pattern;

/** The document's promises from the first one on: each one with ordinary calls, an edge and a wrong call. */
public final class PromisesTest extends Check {
    private static final Pattern PROMISE = Pattern.compile("(?s)(\\d+): .*?`: (.*?)\n(\n.*)?");
    private static final Pattern ANSWER = Pattern.compile("(?m)^Returns .*$");
    private static final List<String> DUE = new ArrayList<>();
    private static final List<String> MET = new ArrayList<>();

    private static void readDocument() throws IOException {
        for (String section : Files.readString(Path.of("../shared/DOC.md")).split("(?m)^## (Promise )?")) {
            Matcher promise = PROMISE.matcher(section);
            if (promise.matches()) {
                Matcher answer = ANSWER.matcher(promise.group(3) == null ? "" : promise.group(3));
                DUE.add(title(Integer.parseInt(promise.group(1)), promise.group(2).replaceAll("\\s+", " "), answer.find() ? answer.group() : ""));
            }
        }
    }

    private static String title(int number, String description, String answer) {
        return number + ": " + description + " / " + answer;
    }

    /** A new page for a promise, of which the document says just this. */
    private static Page promise(int number, String description, String answer) {
        MET.add(title(number, description, answer));
        return answer.isEmpty() ? new Page(description) : new Page(description, answer);
    }

    /** A leaf 3 with the weight 2 and a leaf 2 with the weight 1 below the group 1 with the rule s, below the group 0. */
    private static Page tree(Page page) {
        return page.does("addComponent", -1, 4, 'w').does("addComponent", 0, 3, 's').does("addComponent", 1, 1, 'w').does("addComponent", 1, 2, 'w');
    }

    private static Page later(Page page, int minutes) {
        for (int left = minutes; left > 0; left -= 600) {
            page.does("pass", Math.min(left, 600));
        }
        return page;
    }

    private static void newObject() {
        Page page = promise(1, "Creates a page without components and people, in the minute 0.", "");
        page.answers(0, "components").answers(0, "people").answers(0, "minute").answers(0, "incidents").answers(0, "mails").refuses(MISSING, "state", 0);
    }

    private static void addComponent() {
        Page page = promise(2, "Adds a component.", "Returns the number of the component.");
        page.answers(0, "addComponent", -1, 1, 'w').answers(1, "addComponent", 0, 9, 's').answers(2, "components").answers(0, "pathAt", 1, 0);
        page.answers(9, "setWeight", 1, 2).refuses(MISSING, "addComponent", 2, 1, 'w').refuses(RANGE, "addComponent", 0, 0, 'w').refuses(RANGE, "addComponent", 0, 1, 'v');
        page.does("report", 1, 1, 0).refuses(KIND, "addComponent", 1, 1, 'w');
        for (int c = 2; c < 12; c++) {
            page.answers(c, "addComponent", -1, 1, 'w');
        }
        page.refuses(STATE, "addComponent", 0, 1, 'w');
    }

    private static void setWeight() {
        Page page = tree(promise(3, "Sets the weight of a component, for all minutes.", "Returns the weight before.")).does("report", 3, 3, 0);
        page.does("pass", 2).answers('p', "stateAt", 1, 0).answers(2, "setWeight", 3, 9).answers('m', "stateAt", 1, 0).answers('m', "state", 1);
        page.refuses(MISSING, "setWeight", 4, 1).refuses(RANGE, "setWeight", 3, 0).refuses(RANGE, "setWeight", 3, 10).answers(9, "setWeight", 3, 9);
    }

    private static void addPerson() {
        Page page = promise(4, "Adds a person without subscriptions.", "Returns the number of the person.").refuses(RANGE, "addPerson", 0).refuses(RANGE, "addPerson", 4);
        for (int p = 0; p < 6; p++) {
            page.answers(p, "addPerson", p % 3 + 1).answers(0, "subscriptions", p).answers(p + 1, "people");
        }
        page.refuses(STATE, "addPerson", 1);
    }

    private static void subscribe() {
        Page page = tree(promise(5, "Subscribes to a component.", "Returns the number of components to which the person has subscribed.")).does("addPerson", 1);
        page.answers(1, "subscribe", 0, 2).answers(2, "subscribe", 0, 0).refuses(STATE, "subscribe", 0, 2).refuses(MISSING, "subscribe", 1, 2);
        page.refuses(MISSING, "subscribe", 0, 4).does("report", 2, 1, 0).answers(1, "mailsTo", 0);
    }

    private static void unsubscribe() {
        Page page = tree(promise(6, "Ends a subscription.", "Returns the number of components to which the person has subscribed.")).does("addPerson", 1);
        page.does("subscribe", 0, 2).does("subscribe", 0, 3).answers(1, "unsubscribe", 0, 2).refuses(STATE, "unsubscribe", 0, 2);
        page.refuses(MISSING, "unsubscribe", 1, 3).refuses(MISSING, "unsubscribe", 0, 4).does("report", 2, 3, 0).answers(0, "mails").answers(0, "unsubscribe", 0, 3);
    }

    private static void report() {
        Page page = tree(promise(7, "Reports an incident, which is open.", "Returns the number of the incident.")).does("pass", 5);
        page.answers(0, "report", 2, 3, 5).answers(-1, "endOf", 0).answers(1, "open").answers('m', "state", 2).answers('u', "stateAt", 2, 4);
        page.refuses(MISSING, "report", 4, 1, 0).refuses(RANGE, "report", 2, 4, 0).refuses(RANGE, "report", 2, 1, 6).refuses(KIND, "report", 1, 1, 0);
        for (int i = 1; i < 20; i++) {
            page.answers(i, "report", 3, 1, 0);
        }
        page.refuses(STATE, "report", 3, 1, 0);
    }

    private static void resolve() {
        Page page = tree(promise(8, "Resolves an incident.", "Returns the number of minutes that it covers.")).does("pass", 5).does("report", 2, 1, 2);
        page.refuses(MISSING, "resolve", 1, 5).refuses(RANGE, "resolve", 0, 1).refuses(RANGE, "resolve", 0, 6).answers(3, "resolve", 0, 5);
        page.refuses(STATE, "resolve", 0, 5).answers(5, "endOf", 0).answers('d', "stateAt", 2, 4).answers('u', "state", 2);
        page.does("report", 2, 1, 5).answers(0, "resolve", 1, 5);
    }

    private static void correct() {
        Page page = tree(promise(9, "Corrects the level and the start of an incident, open or resolved; one that covered no minutes, also one "
            + "that was withdrawn, covers minutes again if its start is less than its end then.", "Returns the level before."));
        page.does("pass", 5).does("report", 2, 1, 4).answers(1, "correct", 0, 3, 5).answers(3, "levelOf", 0).answers(5, "startOf", 0).refuses(RANGE, "correct", 0, 3, 6);
        page.does("withdraw", 0).answers(3, "correct", 0, 2, 5).answers('u', "stateAt", 2, 5).answers(2, "correct", 0, 2, 4).answers('p', "stateAt", 2, 4);
        page.does("pass", 1).refuses(RANGE, "correct", 0, 2, 6).refuses(RANGE, "correct", 0, 0, 0).refuses(MISSING, "correct", 1, 1, 0);
    }

    private static void withdraw() {
        Page page = tree(promise(10, "Withdraws an incident: it is resolved with its start as its end, and so covers no minutes, unless it is corrected.",
            "Returns the number of open incidents after the call."));
        page.does("pass", 5).does("report", 2, 1, 1).does("report", 2, 2, 2).does("report", 3, 3, 3).answers(2, "withdraw", 1).answers(2, "endOf", 1);
        page.answers('d', "state", 2).refuses(STATE, "withdraw", 1).refuses(MISSING, "withdraw", 3).does("resolve", 0, 2).answers(1, "withdraw", 0).answers(0, "withdraw", 2);
    }

    private static void join() {
        Page page = tree(promise(11, "Joins the cases of two incidents to one.", "Returns the number of incidents of the case after the call."));
        for (int i = 0; i < 4; i++) {
            page.does("report", 2, 1, 0);
        }
        page.answers(2, "join", 3, 2).answers(2, "join", 1, 0).refuses(STATE, "join", 0, 1).answers(4, "join", 3, 1).answers(0, "caseOf", 2);
        page.refuses(STATE, "join", 2, 2).refuses(MISSING, "join", 4, 0).refuses(MISSING, "join", 0, 4);
    }

    private static void maintain() {
        Page page = tree(promise(12, "Announces maintenance.", "Returns the number of the maintenance.")).does("pass", 5).answers(0, "maintain", 1, 5, 7);
        page.answers(true, "isExcused", 2, 5).answers(true, "isExcused", 2, 6).answers(false, "isExcused", 2, 7).answers(false, "isExcused", 0, 5);
        page.refuses(MISSING, "maintain", 4, 5, 6).refuses(RANGE, "maintain", 1, 4, 6).refuses(RANGE, "maintain", 1, 6, 6).refuses(RANGE, "maintain", 1, 10000, 10001);
        page.refuses(RANGE, "maintain", 1, 9999, 10001).answers(1, "maintain", 1, 9999, 10000);
        for (int m = 2; m < 8; m++) {
            page.answers(m, "maintain", 0, 8, 9);
        }
        page.refuses(STATE, "maintain", 0, 8, 9);
    }

    private static void callOff() {
        Page page = tree(promise(13, "Calls maintenance off: it has no minutes any more.", "Returns the number of minutes that it had."));
        page.does("maintain", 1, 5, 7).does("maintain", 1, 4, 9).does("pass", 5).answers(2, "callOff", 0).answers(true, "isExcused", 2, 5);
        page.refuses(STATE, "callOff", 0).refuses(STATE, "callOff", 1).refuses(MISSING, "callOff", 2).refuses(MISSING, "callOff", -1);
        page.does("maintain", 2, 20, 21).answers(true, "isExcused", 2, 20).answers(1, "callOff", 2).answers(false, "isExcused", 2, 20);
    }

    private static void pass() {
        Page page = promise(14, "Lets minutes pass.", "Returns the present minute after the call.").answers(1, "pass", 1).answers(601, "pass", 600);
        page.refuses(RANGE, "pass", 0).refuses(RANGE, "pass", 601).answers(601, "minute");
        later(page, 9398).answers(9999, "minute").refuses(STATE, "pass", 1).refuses(STATE, "pass", 600).refuses(RANGE, "pass", -1);
    }

    private static void components() {
        Page page = promise(15, "Returns the number of components.", "Returns the number of components.").answers(0, "components");
        tree(page).answers(4, "components").refuses(MISSING, "addComponent", 4, 1, 'w').answers(4, "components");
    }

    private static void people() {
        Page page = promise(16, "Returns the number of people.", "Returns the number of people.").answers(0, "people");
        page.does("addPerson", 3).answers(1, "people").refuses(RANGE, "addPerson", 4).does("addPerson", 3).answers(2, "people");
    }

    private static void incidents() {
        Page page = tree(promise(17, "Returns the number of incidents.", "Returns the number of incidents.")).answers(0, "incidents");
        page.does("report", 2, 1, 0).answers(1, "incidents").refuses(KIND, "report", 0, 1, 0).does("withdraw", 0).answers(1, "incidents");
    }

    private static void minute() {
        Page page = promise(18, "Returns the present minute.", "Returns the minute.").answers(0, "minute").does("pass", 7).answers(7, "minute");
        page.refuses(RANGE, "pass", 601).answers(7, "minute").does("pass", 600).answers(607, "minute");
    }

    private static void isGroup() {
        Page page = tree(promise(19, "Returns whether a component is a group.", "Returns true if it is.")).answers(true, "isGroup", 0).answers(true, "isGroup", 1);
        page.answers(false, "isGroup", 2).answers(false, "isGroup", 3).refuses(MISSING, "isGroup", 4).refuses(MISSING, "isGroup", -1);
    }

    private static void depth() {
        Page page = tree(promise(20, "Returns the number of components that a component is below.", "Returns the number of components."));
        page.answers(0, "depth", 0).answers(1, "depth", 1).answers(2, "depth", 2).answers(2, "depth", 3).refuses(MISSING, "depth", 4).refuses(MISSING, "depth", -1);
    }

    private static void leaves() {
        Page page = tree(promise(21, "Returns the number of leaves that are below a component, or 1 for a leaf.", "Returns the number of leaves."));
        page.answers(2, "leaves", 0).answers(2, "leaves", 1).answers(1, "leaves", 2).answers(1, "leaves", 3).refuses(MISSING, "leaves", 4);
        page.does("addComponent", 0, 1, 'w').answers(3, "leaves", 0).answers(2, "leaves", 1).answers(1, "leaves", 4).refuses(MISSING, "leaves", -1);
    }

    private static void belowAt() {
        Page page = promise(22, "Returns a component of those that consist of a component and all that are below it: first the component itself, then, for each "
            + "of its children in the order of their numbers, the child and all that are below it.", "Returns the component with this index.");
        page.does("addComponent", -1, 1, 'w').does("addComponent", 0, 1, 'w').does("addComponent", 0, 1, 'w').does("addComponent", 1, 1, 'w').does("addComponent", 2, 1, 'w');
        page.answers(0, "belowAt", 0, 0).answers(1, "belowAt", 0, 1).answers(3, "belowAt", 0, 2).answers(2, "belowAt", 0, 3).answers(4, "belowAt", 0, 4);
        page.answers(1, "belowAt", 1, 0).answers(3, "belowAt", 1, 1).answers(4, "belowAt", 2, 1).answers(4, "belowAt", 4, 0);
        page.refuses(INDEX, "belowAt", 0, 5).refuses(INDEX, "belowAt", 0, -1).refuses(INDEX, "belowAt", 4, 1).refuses(MISSING, "belowAt", 5, 0);
    }

    private static void pathAt() {
        Page page = promise(23, "Returns a component of the path to a component.", "Returns the component with this index, which is the component itself for its depth.");
        tree(page).answers(0, "pathAt", 3, 0).answers(1, "pathAt", 3, 1).answers(3, "pathAt", 3, 2).answers(0, "pathAt", 0, 0);
        page.refuses(INDEX, "pathAt", 3, 3).refuses(INDEX, "pathAt", 3, -1).refuses(INDEX, "pathAt", 0, 1).refuses(MISSING, "pathAt", 4, 0);
    }

    private static void state() {
        Page page = tree(promise(24, "Returns the state of a component in the present minute.", "Returns 'u', 'd', 'p' or 'm'.")).answers('u', "state", 0);
        page.does("report", 3, 1, 0).answers('d', "state", 3).answers('d', "state", 1).answers('d', "state", 0).answers('u', "state", 2);
        page.does("report", 3, 2, 0).answers('p', "state", 3).answers('d', "state", 1).does("report", 3, 3, 0).answers('m', "state", 3).answers('p', "state", 1);
        page.does("report", 2, 2, 0).answers('m', "state", 1).answers('m', "state", 0).refuses(MISSING, "state", 4).refuses(MISSING, "state", -1);
    }

    private static void stateAt() {
        Page page = tree(promise(25, "Returns the state of a component in a minute, by the incidents as they are now.", "Returns the state.")).does("pass", 4);
        page.does("report", 2, 3, 2).answers('u', "stateAt", 2, 1).answers('m', "stateAt", 2, 2).answers('d', "stateAt", 0, 4).does("correct", 0, 2, 1).does("resolve", 0, 3);
        page.answers('p', "stateAt", 2, 1).answers('p', "stateAt", 2, 2).answers('u', "stateAt", 2, 3).refuses(MISSING, "stateAt", 4, 0);
        page.refuses(RANGE, "stateAt", 2, -1).refuses(RANGE, "stateAt", 2, 5);
    }

    private static void isExcused() {
        Page page = tree(promise(26, "Returns whether a component is excused in a minute.", "Returns true if it is.")).does("maintain", 1, 3, 5);
        page.answers(false, "isExcused", 1, 2).answers(true, "isExcused", 1, 3).answers(true, "isExcused", 3, 4).answers(false, "isExcused", 3, 5);
        page.answers(false, "isExcused", 0, 3).answers(false, "isExcused", 3, 9999).refuses(MISSING, "isExcused", 4, 3).refuses(RANGE, "isExcused", 3, 10000);
        page.refuses(RANGE, "isExcused", 3, -1);
    }

    private static void weightedLoss() {
        Page page = tree(promise(27, "Returns the loss of a group by the rule 's' in the present minute, whatever its rule is.",
            "Returns the sum of the losses of its children times their weights, divided by the sum of the weights, rounded down."));
        page.answers(0, "weightedLoss", 1).does("pass", 1).does("report", 3, 2, 1).answers('u', "stateAt", 3, 0).answers(33, "weightedLoss", 1).answers(25, "weightedLoss", 0);
        page.does("report", 2, 3, 0).answers(66, "weightedLoss", 1).answers(50, "weightedLoss", 0).refuses(KIND, "weightedLoss", 2).refuses(MISSING, "weightedLoss", 4);
    }

    private static void counted() {
        Page page = tree(promise(28, "Returns the number of counted minutes of a component in a month.", "Returns the number of minutes.")).does("maintain", 1, 590, 610);
        page.answers(0, "counted", 0, 0).does("pass", 600).answers(590, "counted", 2, 0).answers(600, "counted", 0, 0).answers(0, "counted", 2, 1);
        page.does("pass", 11).answers(1, "counted", 2, 1).answers(11, "counted", 0, 1).answers(0, "counted", 0, 16);
        page.refuses(MISSING, "counted", 4, 0).refuses(RANGE, "counted", 0, 17).refuses(RANGE, "counted", 0, -1);
    }

    /** Found in one way or the other, uptimes are the same. */
    private static void anUptime(Page page, String name) {
        tree(page).does("maintain", 3, 5, 8).refuses(STATE, name, 3, 0).does("report", 3, 2, 0).does("pass", 10).does("resolve", 0, 6);
        page.answers(6428, name, 3, 0).answers(10000, name, 2, 0).answers(8500, name, 1, 0).answers(8500, name, 0, 0).refuses(STATE, name, 0, 1);
        page.refuses(MISSING, name, 4, 0).refuses(RANGE, name, 0, 17).refuses(RANGE, name, 0, -1).does("correct", 0, 3, 0).answers(2857, name, 3, 0);
    }

    private static void uptime() {
        anUptime(promise(29, "Returns the uptime of a component in a month, found from the minutes at which something changes.", "Returns the uptime, 0 to 10000."), "uptime");
    }

    private static void uptimeByMinutes() {
        anUptime(promise(30, "Returns the same as uptime, found minute by minute.", "Returns the uptime."), "uptimeByMinutes");
    }

    private static void worst() {
        Page page = tree(promise(31, "Returns the leaf with the greatest loss times weight in the present minute; of several, the one with the lowest number.",
            "Returns the leaf.")).refuses(MISSING, "worst");
        page.does("report", 3, 1, 0).answers(3, "worst").does("report", 2, 2, 0).answers(2, "worst").does("correct", 0, 2, 0).answers(3, "worst");
        page.does("withdraw", 0).answers(2, "worst").does("withdraw", 1).refuses(MISSING, "worst");
        page.does("pass", 1).does("report", 2, 1, 1).answers('u', "stateAt", 2, 0).answers(2, "worst");
    }

    private static void open() {
        Page page = tree(promise(32, "Returns the number of open incidents.", "Returns the number of incidents.")).answers(0, "open").does("report", 2, 1, 0);
        page.answers(1, "open").does("report", 3, 3, 0).answers(2, "open").does("resolve", 1, 0).answers(1, "open").does("withdraw", 0).answers(0, "open");
    }

    private static void nextIncident() {
        Page page = tree(promise(33, "Returns the open incident to look at next: that with the greatest level; of several, the one with the earliest start, "
            + "and then the one with the lowest number.", "Returns the incident.")).refuses(MISSING, "nextIncident").does("pass", 5);
        page.does("report", 2, 2, 0).does("report", 2, 3, 4).does("report", 3, 3, 3).does("report", 3, 3, 3).answers(2, "nextIncident");
        page.does("resolve", 2, 5).answers(3, "nextIncident").does("withdraw", 3).answers(1, "nextIncident").does("resolve", 1, 5).answers(0, "nextIncident");
        page.does("resolve", 0, 5).refuses(MISSING, "nextIncident");
    }

    private static void levelOf() {
        Page page = tree(promise(34, "Returns the level of an incident.", "Returns the level.")).does("report", 2, 2, 0).does("report", 3, 1, 0);
        page.answers(2, "levelOf", 0).answers(1, "levelOf", 1).does("correct", 0, 3, 0).answers(3, "levelOf", 0).refuses(MISSING, "levelOf", 2).refuses(MISSING, "levelOf", -1);
    }

    private static void startOf() {
        Page page = tree(promise(35, "Returns the start of an incident.", "Returns the minute.")).does("pass", 9).does("report", 2, 2, 9).does("report", 3, 1, 4);
        page.answers(9, "startOf", 0).answers(4, "startOf", 1).does("correct", 1, 3, 6).answers(6, "startOf", 1).refuses(MISSING, "startOf", 2).refuses(MISSING, "startOf", -1);
    }

    private static void endOf() {
        Page page = tree(promise(36, "Returns the end of an incident.", "Returns the minute, or -1 if it is open.")).does("pass", 9).does("report", 2, 2, 3);
        page.does("report", 3, 1, 4).answers(-1, "endOf", 0).does("resolve", 0, 8).answers(8, "endOf", 0).does("withdraw", 1).answers(4, "endOf", 1);
        page.does("correct", 1, 1, 0).answers(4, "endOf", 1).refuses(MISSING, "endOf", 2).refuses(MISSING, "endOf", -1);
    }

    private static void caseOf() {
        Page page = tree(promise(37, "Returns the case of an incident.", "Returns the number of the case.")).does("report", 2, 1, 0).does("report", 3, 1, 0).does("report", 2, 1, 0);
        page.answers(0, "caseOf", 0).answers(2, "caseOf", 2).does("join", 2, 1).answers(1, "caseOf", 2).does("join", 2, 0).answers(0, "caseOf", 1).answers(0, "caseOf", 2);
        page.refuses(MISSING, "caseOf", 3).refuses(MISSING, "caseOf", -1);
    }

    private static void cases() {
        Page page = tree(promise(38, "Returns the number of cases.", "Returns the number of cases.")).answers(0, "cases").does("report", 2, 1, 0).answers(1, "cases");
        page.does("report", 3, 1, 0).does("report", 2, 1, 0).answers(3, "cases").does("join", 0, 2).answers(2, "cases").does("withdraw", 1).answers(2, "cases");
        page.does("join", 1, 2).answers(1, "cases");
    }

    private static void caseMinutes() {
        Page page = tree(promise(39, "Returns the number of past minutes that at least one incident of the case of an incident covers.", "Returns the number of minutes."));
        page.does("pass", 10).does("report", 2, 1, 1).does("report", 3, 3, 3).does("report", 3, 3, 8).does("resolve", 0, 4).does("resolve", 1, 6);
        page.answers(3, "caseMinutes", 0).answers(3, "caseMinutes", 1).answers(2, "caseMinutes", 2).does("join", 0, 1).answers(5, "caseMinutes", 1);
        page.does("join", 0, 2).answers(7, "caseMinutes", 0).does("pass", 2).answers(9, "caseMinutes", 2).refuses(MISSING, "caseMinutes", 3);
    }

    private static void subscriptions() {
        Page page = tree(promise(40, "Returns the number of components to which a person has subscribed.", "Returns the number of components.")).does("addPerson", 1);
        page.answers(0, "subscriptions", 0).does("subscribe", 0, 3).does("subscribe", 0, 0).answers(2, "subscriptions", 0).does("unsubscribe", 0, 3);
        page.answers(1, "subscriptions", 0).refuses(MISSING, "subscriptions", 1).refuses(MISSING, "subscriptions", -1);
    }

    /** The person 1 follows the group 1, the person 2 the leaf 3, the person 0 nothing; two changes of the leaf 3 tell both. */
    private static Page mailed(Page page) {
        tree(page).does("addPerson", 1).does("addPerson", 1).does("addPerson", 2).does("subscribe", 1, 1).does("subscribe", 2, 3);
        return page.does("pass", 6).does("report", 3, 2, 0).does("pass", 1).does("correct", 0, 3, 0);
    }

    private static void mails() {
        Page page = promise(41, "Returns the number of mails.", "Returns the number of mails.").answers(0, "mails");
        mailed(page).answers(4, "mails").does("correct", 0, 3, 1).answers(4, "mails").does("withdraw", 0).answers(6, "mails");
        page.does("report", 3, 1, 0).answers(7, "mails").does("resolve", 1, 7).answers(8, "mails").does("report", 3, 2, 0).answers(10, "mails");
        page.does("withdraw", 2).answers(12, "mails");
    }

    private static void mailsTo() {
        Page page = mailed(promise(42, "Returns the number of mails to a person.", "Returns the number of mails."));
        page.answers(0, "mailsTo", 0).answers(2, "mailsTo", 1).answers(2, "mailsTo", 2).refuses(MISSING, "mailsTo", 3).refuses(MISSING, "mailsTo", -1);
    }

    private static void mailPerson() {
        Page page = mailed(promise(43, "Returns to whom a mail went.", "Returns the person.")).answers(1, "mailPerson", 0).answers(2, "mailPerson", 1);
        page.answers(1, "mailPerson", 2).answers(2, "mailPerson", 3).refuses(MISSING, "mailPerson", 4).refuses(MISSING, "mailPerson", -1);
    }

    private static void mailComponent() {
        Page page = mailed(promise(44, "Returns the component that a mail tells.", "Returns the component.")).answers(1, "mailComponent", 0);
        page.answers(3, "mailComponent", 1).answers(1, "mailComponent", 2).answers(3, "mailComponent", 3).refuses(MISSING, "mailComponent", 4);
        page.refuses(MISSING, "mailComponent", -1);
    }

    private static void mailState() {
        Page page = mailed(promise(45, "Returns the state that a mail tells.", "Returns the state.")).answers('d', "mailState", 0).answers('p', "mailState", 1);
        page.answers('p', "mailState", 2).answers('m', "mailState", 3).does("withdraw", 0).answers('u', "mailState", 4).answers('d', "mailState", 0);
        page.refuses(MISSING, "mailState", 6).refuses(MISSING, "mailState", -1);
    }

    private static void mailMinute() {
        Page page = mailed(promise(46, "Returns the minute of a mail.", "Returns the minute.")).answers(6, "mailMinute", 0).answers(6, "mailMinute", 1);
        page.answers(7, "mailMinute", 2).answers(7, "mailMinute", 3).refuses(MISSING, "mailMinute", 4).refuses(MISSING, "mailMinute", -1);
    }

    private static void excusedShare() {
        Page page = tree(promise(47, "Returns the share of the past minutes in which a component is excused: their number divided by that of all past minutes, "
            + "both converted to float.", "Returns the share.")).does("maintain", 1, 2, 4).refuses(DIVISION, "excusedShare", 1).refuses(MISSING, "excusedShare", 4);
        page.does("pass", 2).answers(0.0f, "excusedShare", 1).does("pass", 1).answers(1.0f / 3.0f, "excusedShare", 3).does("pass", 3).answers(2.0f / 6.0f, "excusedShare", 1);
        page.answers(0.0f, "excusedShare", 0).refuses(MISSING, "excusedShare", -1);
    }

    private static void meanUptime() {
        Page page = tree(promise(48, "Returns the mean uptime in a month of all components that have counted minutes in it: the sum of the uptimes divided by their "
            + "number, both converted to double.", "Returns the mean.")).refuses(DIVISION, "meanUptime", 0).does("maintain", 2, 0, 9).does("report", 3, 2, 0).does("pass", 3);
        page.answers((5000 + 7500 + 7500) / 3.0, "meanUptime", 0).does("pass", 7).answers((5000 + 10000 + 7500 + 7500) / 4.0, "meanUptime", 0);
        page.refuses(DIVISION, "meanUptime", 1).refuses(RANGE, "meanUptime", 17).refuses(RANGE, "meanUptime", -1);
    }

    private static void toChange() {
        newObject();
        addComponent();
        setWeight();
        addPerson();
        subscribe();
        unsubscribe();
        report();
        resolve();
        correct();
        withdraw();
        join();
        maintain();
        callOff();
        pass();
    }

    private static void toAskOfComponents() {
        components();
        people();
        incidents();
        minute();
        isGroup();
        depth();
        leaves();
        belowAt();
        pathAt();
        state();
        stateAt();
        isExcused();
        weightedLoss();
        counted();
        uptime();
        uptimeByMinutes();
        worst();
    }

    private static void toAskOfTheRest() {
        open();
        nextIncident();
        levelOf();
        startOf();
        endOf();
        caseOf();
        cases();
        caseMinutes();
        subscriptions();
        mails();
        mailsTo();
        mailPerson();
        mailComponent();
        mailState();
        mailMinute();
        excusedShare();
        meanUptime();
    }

    public static void main(String[] args) throws Exception {
        readDocument();
        toChange();
        toAskOfComponents();
        toAskOfTheRest();
        same("the number of promises with a test", MET.size(), DUE.size());
        for (int i = 0; i < Math.min(MET.size(), DUE.size()); i++) {
            same("the promise that is tested in the place " + (i + 1), MET.get(i), DUE.get(i));
        }
        end("PromisesTest");
    }
}
