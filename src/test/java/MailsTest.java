import java.util.NoSuchElementException;

/** Promises 41 to 46, and who is told of a change by promises 7 to 10. */
public final class MailsTest {
    private static final Class<?> NONE = NoSuchElementException.class;

    /** 0 over 1 and 2, 1 over 3 and 4, and 5 alone, in the minute 10. */
    private static Statusboard page() {
        Statusboard b = new Statusboard();
        for (int parent : new int[] {-1, 0, 0, 1, 1, -1}) {
            b.addComponent(parent, 1, 'w');
        }
        b.pass(10);
        return b;
    }

    private static void person(Statusboard b, int least, int... components) {
        int person = b.addPerson(least);
        for (int component : components) {
            b.subscribe(person, component);
        }
    }

    private static void mail(Statusboard b, int mail, int person, int component, char state, int minute) {
        Check.same("mail " + mail + "'s person", b.mailPerson(mail), person);
        Check.same("mail " + mail + "'s component", b.mailComponent(mail), component);
        Check.same("mail " + mail + "'s state", b.mailState(mail), state);
        Check.same("mail " + mail + "'s minute", b.mailMinute(mail), minute);
    }

    private static void fourCalls() {
        Statusboard b = page();
        person(b, 1, 3);
        b.report(3, 1, 10);
        mail(b, 0, 0, 3, 'd', 10);
        b.pass(1);
        b.correct(0, 3, 10);
        mail(b, 1, 0, 3, 'm', 11);
        b.correct(0, 2, 4);
        mail(b, 2, 0, 3, 'p', 11);
        b.pass(1);
        b.resolve(0, 12);
        mail(b, 3, 0, 3, 'u', 12);
        b.report(3, 3, 0);
        b.withdraw(1);
        mail(b, 5, 0, 3, 'u', 12);
        Check.same("mails", b.mails(), 6);
        Check.same("mailsTo", b.mailsTo(0), 6);
    }

    private static void noChange() {
        Statusboard b = page();
        person(b, 1, 0, 1, 2, 3, 4, 5);
        b.report(3, 2, 5);
        Check.same("one mail", b.mails(), 1);
        b.report(3, 2, 0);
        b.report(3, 1, 0);
        b.correct(0, 2, 8);
        b.resolve(0, 9);
        b.withdraw(0);
        b.correct(0, 3, 5);
        b.withdraw(2);
        Check.same("the present states are as before", b.mails(), 1);
        b.pass(20);
        b.setWeight(3, 9);
        b.join(0, 1);
        b.maintain(5, 30, 40);
        b.callOff(0);
        Check.same("no mail of other calls", b.mails(), 1);
        b.report(5, 3, 30);
        b.correct(3, 3, 20);
        Check.same("a change of now", b.mails(), 2);
    }

    private static void leastLevels() {
        Statusboard b = page();
        person(b, 1, 5);
        person(b, 2, 5);
        person(b, 3, 5);
        b.report(5, 1, 10);
        Check.same("only the first one", b.mails(), 1);
        mail(b, 0, 0, 5, 'd', 10);
        b.correct(0, 2, 10);
        mail(b, 1, 0, 5, 'p', 10);
        mail(b, 2, 1, 5, 'p', 10);
        b.correct(0, 3, 10);
        mail(b, 3, 0, 5, 'm', 10);
        mail(b, 4, 1, 5, 'm', 10);
        mail(b, 5, 2, 5, 'm', 10);
        b.correct(0, 1, 10);
        mail(b, 8, 2, 5, 'd', 10);
        b.resolve(0, 10);
        Check.same("the greater level is 1", b.mails(), 10);
        mail(b, 9, 0, 5, 'u', 10);
        Check.same("to the first one", b.mailsTo(0), 5);
        Check.same("to the second one", b.mailsTo(1), 3);
        Check.same("to the third one", b.mailsTo(2), 2);
    }

    private static void whichComponent() {
        Statusboard b = page();
        person(b, 1, 3, 1, 0);
        person(b, 1, 3, 1);
        person(b, 1, 3);
        person(b, 1, 4, 2, 5);
        person(b, 1);
        person(b, 1, 5, 1, 3);
        b.report(3, 1, 10);
        mail(b, 0, 0, 0, 'd', 10);
        mail(b, 1, 1, 1, 'd', 10);
        mail(b, 2, 2, 3, 'd', 10);
        mail(b, 3, 5, 1, 'd', 10);
        Check.same("four mails", b.mails(), 4);
        b.report(2, 2, 10);
        mail(b, 4, 0, 0, 'p', 10);
        mail(b, 5, 3, 2, 'p', 10);
        b.unsubscribe(0, 0);
        b.correct(0, 3, 10);
        mail(b, 6, 0, 1, 'm', 10);
        Check.same("to nobody who reads nothing", b.mailsTo(4), 0);
    }

    private static void lowestNumber() {
        Statusboard b = new Statusboard();
        b.addComponent(-1, 1, 'w');
        b.addComponent(-1, 1, 'w');
        b.addComponent(1, 1, 'w');
        b.addComponent(2, 1, 'w');
        b.addComponent(0, 1, 'w');
        b.addComponent(4, 1, 'w');
        person(b, 1, 5, 4, 3, 2);
        b.report(3, 1, 0);
        mail(b, 0, 0, 2, 'd', 0);
        b.report(5, 1, 0);
        mail(b, 1, 0, 4, 'd', 0);
    }

    private static void levelsOfEach() {
        Statusboard b = new Statusboard();
        b.addComponent(-1, 1, 's');
        b.addComponent(0, 1, 'w');
        b.addComponent(0, 1, 'w');
        b.addComponent(0, 1, 'w');
        person(b, 3, 0, 1);
        person(b, 1, 0, 1);
        b.report(1, 3, 0);
        Check.same("the group is only degraded", b.state(0), 'd');
        mail(b, 0, 0, 1, 'm', 0);
        mail(b, 1, 1, 0, 'd', 0);
        b.correct(0, 2, 0);
        mail(b, 2, 0, 1, 'p', 0);
        mail(b, 3, 1, 1, 'p', 0);
        Check.same("the group is still degraded", b.state(0), 'd');
    }

    private static void excused() {
        Statusboard b = page();
        person(b, 1, 0, 1, 3);
        person(b, 1, 3);
        b.maintain(1, 20, 30);
        b.maintain(0, 40, 50);
        b.pass(9);
        b.report(3, 1, 0);
        Check.same("ahead of the maintenance", b.mails(), 2);
        b.pass(1);
        b.correct(0, 2, 0);
        Check.same("in it", b.mails(), 3);
        mail(b, 2, 0, 0, 'p', 20);
        b.pass(10);
        b.correct(0, 3, 0);
        Check.same("behind it", b.mails(), 5);
        mail(b, 4, 1, 3, 'm', 30);
        b.pass(10);
        b.correct(0, 1, 0);
        Check.same("all are excused", b.mails(), 5);
    }

    private static void manyMails() {
        Statusboard b = new Statusboard();
        b.addComponent(-1, 1, 'w');
        for (int p = 0; p < 6; p++) {
            person(b, 1, 0);
        }
        b.report(0, 1, 0);
        int calls = 0;
        while (calls < 490) {
            b.correct(0, calls % 2 + 2, 0);
            calls++;
        }
        int all = 6 * (calls + 1);
        Check.same("mails", b.mails(), all);
        for (int m = 0; m < all; m++) {
            mail(b, m, m % 6, 0, m < 6 ? 'd' : m / 6 % 2 == 1 ? 'p' : 'm', 0);
        }
        Check.same("mailsTo", b.mailsTo(5), calls + 1);
    }

    private static void wrongArguments() {
        Statusboard b = page();
        person(b, 1, 5);
        b.report(5, 1, 0);
        for (int m : new int[] {-1, 1, 1000000, Integer.MAX_VALUE, Integer.MIN_VALUE}) {
            Check.refuses("mailPerson", b, NONE, () -> b.mailPerson(m));
            Check.refuses("mailComponent", b, NONE, () -> b.mailComponent(m));
            Check.refuses("mailState", b, NONE, () -> b.mailState(m));
            Check.refuses("mailMinute", b, NONE, () -> b.mailMinute(m));
            Check.refuses("mailsTo", b, NONE, () -> b.mailsTo(m));
        }
        Check.refuses("a call that throws tells nobody", b, IllegalArgumentException.class, () -> b.report(5, 3, 11));
    }

    public static void main(String[] args) {
        fourCalls();
        noChange();
        leastLevels();
        whichComponent();
        lowestNumber();
        levelsOfEach();
        excused();
        manyMails();
        wrongArguments();
        Check.end("MailsTest");
    }
}
