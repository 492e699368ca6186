import java.util.NoSuchElementException;

/** Promises 4 to 6, 16 and 40: people and their subscriptions. */
public final class PeopleTest {
    private static final Class<?> NONE = NoSuchElementException.class;
    private static final Class<?> STATE = IllegalStateException.class;

    private static void adding() {
        Statusboard b = new Statusboard();
        for (int least : new int[] {0, 4, -1, Integer.MAX_VALUE, Integer.MIN_VALUE}) {
            Check.refuses("a least level out of range", b, IllegalArgumentException.class, () -> b.addPerson(least));
        }
        for (int p = 0; p < 6; p++) {
            Check.same("addPerson", b.addPerson(p % 3 + 1), p);
            Check.same("people", b.people(), p + 1);
            Check.same("subscriptions of a new person", b.subscriptions(p), 0);
            Check.same("mails to a new person", b.mailsTo(p), 0);
        }
        Check.refuses("a seventh person", b, STATE, () -> b.addPerson(1));
        Check.refuses("a level out of range ahead of a full page", b, IllegalArgumentException.class, () -> b.addPerson(4));
        Check.refuses("subscriptions of nobody", b, NONE, () -> b.subscriptions(6));
        Check.refuses("subscriptions of a negative number", b, NONE, () -> b.subscriptions(-1));
    }

    private static void subscribing() {
        Statusboard b = new Statusboard();
        for (int c = 0; c < 12; c++) {
            b.addComponent(-1, 1, 'w');
        }
        b.addPerson(1);
        b.addPerson(2);
        for (int c = 0; c < 12; c++) {
            Check.same("subscribe", b.subscribe(1, 11 - c), c + 1);
        }
        Check.same("subscriptions", b.subscriptions(1), 12);
        Check.same("subscriptions of another one", b.subscriptions(0), 0);
        Check.refuses("subscribing twice", b, STATE, () -> b.subscribe(1, 4));
        Check.same("unsubscribe", b.unsubscribe(1, 4), 11);
        Check.refuses("unsubscribing twice", b, STATE, () -> b.unsubscribe(1, 4));
        Check.refuses("unsubscribing what another one reads", b, STATE, () -> b.unsubscribe(0, 5));
        Check.same("subscribing again", b.subscribe(1, 4), 12);
        Check.same("subscribing for another one", b.subscribe(0, 4), 1);
        for (int c : new int[] {-1, 12, 36, Integer.MAX_VALUE, Integer.MIN_VALUE}) {
            Check.refuses("subscribe to nothing", b, NONE, () -> b.subscribe(1, c));
            Check.refuses("unsubscribe from nothing", b, NONE, () -> b.unsubscribe(1, c));
        }
        for (int p : new int[] {-1, 2, Integer.MAX_VALUE, Integer.MIN_VALUE}) {
            Check.refuses("subscribe by nobody", b, NONE, () -> b.subscribe(p, 0));
            Check.refuses("unsubscribe by nobody", b, NONE, () -> b.unsubscribe(p, 0));
            Check.refuses("subscriptions", b, NONE, () -> b.subscriptions(p));
        }
    }

    public static void main(String[] args) {
        adding();
        subscribing();
        Check.end("PeopleTest");
    }
}
