import java.util.ArrayList;
import java.util.List;

/** "An object is used for at most 512 calls after it has been made": the last one of them is answered as any other one. */
public final class LongestRunTest extends Check {
    /** The answer of the 512th call, behind 511 others. */
    private static void lastCall(List<Call> others, Object due, String name, Object... arguments) {
        same("calls ahead of the last one", others.size(), Page.MOST_CALLS - 1);
        Call call = new Call(name, arguments);
        same("the call 512, " + call, call.on(Fingerprint.replay(Statusboard.class, others)), String.valueOf(due));
    }

    /** 511 calls, of which 498 tell six people each. */
    private static List<Call> mostMails() {
        List<Call> calls = new ArrayList<>();
        calls.add(new Call("addComponent", -1, 9, 's'));
        for (int p = 0; p < 6; p++) {
            calls.add(new Call("addPerson", 1));
            calls.add(new Call("subscribe", p, 0));
        }
        calls.add(new Call("report", 0, 1, 0));
        while (calls.size() < Page.MOST_CALLS - 1) {
            calls.add(new Call("correct", 0, calls.size() % 3 + 1, 0));
        }
        return calls;
    }

    private static void mostMailsAreKept() {
        List<Call> calls = mostMails();
        int mails = 6 * 498;
        lastCall(calls, mails, "mails");
        for (int m = 0; m < mails; m++) {
            int level = m < 6 ? 1 : (13 + m / 6) % 3 + 1;
            lastCall(calls, m % 6, "mailPerson", m);
            lastCall(calls, "udpm".charAt(level), "mailState", m);
        }
        for (int m = 0; m < mails; m += 83) {
            lastCall(calls, 0, "mailComponent", m);
            lastCall(calls, 0, "mailMinute", m);
        }
        for (String name : new String[] {"mailPerson", "mailComponent", "mailState", "mailMinute"}) {
            lastCall(calls, "throws.NoSuchElementException", name, mails);
            lastCall(calls, "throws.NoSuchElementException", name, -1);
        }
        for (int p = 0; p < 6; p++) {
            lastCall(calls, 498, "mailsTo", p);
        }
        lastCall(calls, 1, "correct", 0, 2, 0);
    }

    private static void lastChange() {
        List<Call> calls = mostMails();
        lastCall(calls, "throws.IllegalStateException", "addPerson", 1);
        lastCall(calls, 1, "addComponent", -1, 1, 'w');
        lastCall(calls, 1, "report", 0, 3, 0);
        lastCall(calls, 0, "resolve", 0, 0);
        lastCall(calls, 0, "withdraw", 0);
        lastCall(calls, 0, "maintain", 0, 0, 10000);
        lastCall(calls, 0, "unsubscribe", 5, 0);
    }

    private static void everyMinutePassed() {
        List<Call> calls = new ArrayList<>();
        while (calls.size() < Page.MOST_CALLS - 1) {
            calls.add(new Call("pass", 1));
        }
        lastCall(calls, 512, "pass", 1);
        lastCall(calls, 511, "minute");
        lastCall(calls, 1111, "pass", 600);
    }

    private static void everyCallRefused() {
        List<Call> calls = new ArrayList<>();
        while (calls.size() < Page.MOST_CALLS - 1) {
            calls.add(new Call("addComponent", 0, 1, 'w'));
        }
        lastCall(calls, 0, "addComponent", -1, 1, 'w');
        lastCall(calls, 0, "components");
        lastCall(calls, "throws.NoSuchElementException", "addComponent", 0, 1, 'w');
    }

    private static void onAndOff() {
        List<Call> calls = new ArrayList<>(List.of(new Call("addComponent", -1, 1, 'w'), new Call("addPerson", 1), new Call("report", 0, 1, 0)));
        while (calls.size() < Page.MOST_CALLS - 1) {
            calls.add(new Call(calls.size() % 2 == 1 ? "subscribe" : "unsubscribe", 0, 0));
        }
        lastCall(calls, 0, "subscriptions", 0);
        lastCall(calls, 1, "subscribe", 0, 0);
        lastCall(calls, 0, "mails");
    }

    public static void main(String[] args) {
        mostMailsAreKept();
        lastChange();
        everyMinutePassed();
        everyCallRefused();
        onAndOff();
        end("LongestRunTest");
    }
}
