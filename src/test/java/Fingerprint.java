import java.util.ArrayList;
import java.util.List;
import java.util.TreeSet;

/**
 * All that an object tells of itself behind a run of calls, as one text. An object is used for at most 512 calls, so
 * the run is made again on as many objects as the questions need. The last questions change the page, to bring to
 * light what no question asks for.
 */
final class Fingerprint {
    private final Class<?> type;
    private final List<Call> run;
    private final TreeSet<Integer> minutes;
    private final List<Call> questions = new ArrayList<>();
    private final StringBuilder text = new StringBuilder();
    private int components;
    private int people;
    private int incidents;
    private int minute;
    private int mails;

    private Fingerprint(Class<?> type, List<Call> run, TreeSet<Integer> minutes) {
        this.type = type;
        this.run = run;
        this.minutes = minutes;
    }

    /** Two fingerprints tell of the same minutes if they are made with the same shape. */
    static String of(Class<?> type, List<Call> run, List<Call> shape) {
        Fingerprint fingerprint = new Fingerprint(type, run, edges(shape));
        fingerprint.count();
        fingerprint.askComponents();
        fingerprint.askIncidents();
        fingerprint.askMails();
        fingerprint.tellAnswers();
        fingerprint.tellHidden();
        return fingerprint.text.toString();
    }

    /** A new object on which the calls were made. */
    static Object replay(Class<?> type, List<Call> run) {
        try {
            Object board = type.getDeclaredConstructor().newInstance();
            for (Call call : run) {
                call.on(board);
            }
            return board;
        } catch (ReflectiveOperationException e) {
            throw new IllegalStateException(e);
        }
    }

    private void count() {
        Object board = replay(type, run);
        components = number(board, "components");
        people = number(board, "people");
        incidents = number(board, "incidents");
        minute = number(board, "minute");
        mails = number(board, "mails");
        for (String name : new String[] {"components", "people", "incidents", "minute", "mails", "open", "cases", "worst", "nextIncident"}) {
            ask(name);
        }
    }

    private static int number(Object board, String name) {
        return Integer.parseInt(new Call(name).on(board));
    }

    private void ask(String name, Object... arguments) {
        questions.add(new Call(name, arguments));
    }

    private void askComponents() {
        for (int c = 0; c < components; c++) {
            for (String name : new String[] {"isGroup", "depth", "leaves", "state", "weightedLoss", "excusedShare"}) {
                ask(name, c);
            }
            for (int i = 0; i <= components; i++) {
                ask("belowAt", c, i);
                ask("pathAt", c, i);
            }
            for (int at : minutes) {
                ask("isExcused", c, at);
                if (at <= minute) {
                    ask("stateAt", c, at);
                }
            }
            for (int month = 0; month <= minute / 600; month += month / 4 + 1) {
                ask("counted", c, month);
                ask("uptime", c, month);
            }
            ask("uptimeByMinutes", c, minute / 600);
        }
        ask("meanUptime", minute / 600);
    }

    // A page can only change at a number that a call named, or beside it.
    private static TreeSet<Integer> edges(List<Call> calls) {
        TreeSet<Integer> minutes = new TreeSet<>(List.of(0, 9, 10, 11, 599, 600, 601, 9998, 9999));
        for (Call call : calls) {
            for (Object argument : call.arguments) {
                for (int beside = -1; argument instanceof Integer && beside <= 1; beside++) {
                    int at = (Integer) argument + beside;
                    if (at >= 0 && at <= 9999) {
                        minutes.add(at);
                    }
                }
            }
        }
        return minutes;
    }

    private void askIncidents() {
        for (int i = 0; i < incidents; i++) {
            for (String name : new String[] {"levelOf", "startOf", "endOf", "caseOf", "caseMinutes"}) {
                ask(name, i);
            }
        }
        for (int p = 0; p < people; p++) {
            ask("subscriptions", p);
            ask("mailsTo", p);
        }
    }

    private void askMails() {
        for (int m = 0; m < mails; m++) {
            for (String name : new String[] {"mailPerson", "mailComponent", "mailState", "mailMinute"}) {
                ask(name, m);
            }
        }
    }

    private void tellAnswers() {
        int room = Page.MOST_CALLS - run.size();
        if (room < 32) {
            throw new IllegalStateException("the run is too long to ask of it");
        }
        for (int from = 0; from < questions.size(); from += room) {
            tell(questions.subList(from, Math.min(from + room, questions.size())));
        }
    }

    private void tell(List<Call> calls) {
        Object board = replay(type, run);
        for (Call call : calls) {
            text.append(call).append(" = ").append(call.on(board)).append('\n');
        }
    }

    private void tellHidden() {
        List<Call> probes = new ArrayList<>();
        for (int c = 0; c < components; c++) {
            probes.add(new Call("setWeight", c, 5));
        }
        for (int m = 0; m <= 8; m++) {
            probes.add(new Call("callOff", m));
        }
        probes.add(new Call("maintain", 0, 9999, 10000));
        probes.add(new Call("addPerson", 1));
        probes.add(new Call("addComponent", -1, 1, 'w'));
        tell(probes);
        for (int p = 0; p < people; p++) {
            tellSubscriptions(p);
        }
        for (int c = 0; c < components; c++) {
            tellMails(c);
        }
        for (int i = 0; i < incidents; i++) {
            // behind the maintenance, which would keep the mails back
            tell(List.of(new Call("pass", 600), new Call("correct", i, 1, 0), new Call("mails"), new Call("correct", i, 2, 0), new Call("mails"),
                new Call("correct", i, 3, 0), new Call("mails")));
        }
    }

    private void tellSubscriptions(int person) {
        List<Call> probes = new ArrayList<>();
        for (int c = 0; c < components; c++) {
            probes.add(new Call("unsubscribe", person, c));
        }
        tell(probes);
    }

    private void tellMails(int component) {
        List<Call> probes = new ArrayList<>(List.of(new Call("pass", 600)));
        for (int level = 1; level <= 3; level++) {
            probes.add(new Call("report", component, level, minute));
            probes.add(new Call("mails"));
            probes.add(new Call("mailPerson", mails));
            probes.add(new Call("mailComponent", mails));
            probes.add(new Call("state", 0));
        }
        tell(probes);
    }
}
