/** Promises 4 to 6, 16 and 40: people and their subscriptions. */
public final class PeopleTest extends Check {
    private static Page page(String... words) {
        Page page = new Page(words);
        for (int c = 0; c < 12; c++) {
            page.does("addComponent", c < 6 ? -1 : c - 6, 1, 'w');
        }
        return page;
    }

    private static void atMostSix() {
        Page page = page("At most 6 people have numbers from 0.", "Throws `IllegalStateException` if there are 6 people");
        for (int p = 0; p < 6; p++) {
            page.answers(p, "people").refuses(MISSING, "subscribe", p, 11).answers(p, "addPerson", p % 3 + 1).answers(0, "subscriptions", p).answers(1, "subscribe", p, 11);
        }
        page.answers(6, "people").refuses(STATE, "addPerson", 1).refuses(STATE, "addPerson", 3).answers(6, "people");
        page.refuses(MISSING, "subscriptions", 6);
        new Page("At most 6 people have numbers from 0.").answers(0, "people").answers(0, "addPerson", 3).answers(1, "people").answers(1, "addPerson", 3);
    }

    private static void leastLevels() {
        Page page = new Page("A person has a least level from 1 to 3", "Throws `IllegalArgumentException` if the level is out of range");
        for (int least : new int[] {LEAST, LEAST + 1, -3, -1, 0, 4, 5, MOST - 1, MOST}) {
            page.refuses(RANGE, "addPerson", least);
        }
        page.answers(0, "addPerson", 1).answers(1, "addPerson", 2).answers(2, "addPerson", 3).does("addComponent", -1, 1, 'w');
        page.does("subscribe", 0, 0).does("subscribe", 1, 0).does("subscribe", 2, 0).does("report", 0, 1, 0).answers(1, "mails");
        page.does("correct", 0, 2, 0).answers(3, "mails").does("correct", 0, 3, 0).answers(6, "mails");
    }

    private static void withoutSubscriptions() {
        Page page = page("Adds a person without subscriptions.");
        for (int p = 0; p < 6; p++) {
            page.does("addPerson", 1).answers(0, "subscriptions", p).answers(0, "mailsTo", p).refuses(STATE, "unsubscribe", p, 0).refuses(STATE, "unsubscribe", p, 11);
        }
        page.does("report", 11, 3, 0).answers(0, "mails");
    }

    private static void subscribing() {
        Page page = page("and subscribes to components.", "Returns the number of components to which the person has subscribed.");
        page.does("addPerson", 1).does("addPerson", 2);
        for (int c = 0; c < 12; c++) {
            page.answers(c, "subscriptions", 1).answers(c + 1, "subscribe", 1, 11 - c).answers(0, "subscriptions", 0);
        }
        page.answers(12, "subscriptions", 1);
        for (int c = 0; c < 12; c++) {
            page.answers(11 - c, "unsubscribe", 1, c).answers(11 - c, "subscriptions", 1);
        }
        page.answers(1, "subscribe", 1, 11).answers(1, "subscribe", 0, 0).answers(1, "subscriptions", 1);
    }

    private static void subscribingTwice() {
        Page page = page("Throws `IllegalStateException` if the person has subscribed to it");
        page.does("addPerson", 1).does("addPerson", 1).does("subscribe", 0, 0).does("subscribe", 0, 11);
        page.refuses(STATE, "subscribe", 0, 0).refuses(STATE, "subscribe", 0, 11);
        page.answers(1, "subscribe", 1, 0).answers(2, "subscribe", 1, 11).answers(3, "subscribe", 0, 6).refuses(STATE, "subscribe", 0, 6);
        page.answers(2, "unsubscribe", 0, 0).answers(3, "subscribe", 0, 0).refuses(STATE, "subscribe", 0, 0);
    }

    private static void unsubscribingTwice() {
        Page page = page("Throws `IllegalStateException` if the person has not subscribed to it");
        page.does("addPerson", 1).does("addPerson", 1).does("subscribe", 0, 0).does("subscribe", 0, 11);
        page.refuses(STATE, "unsubscribe", 0, 1).refuses(STATE, "unsubscribe", 0, 10).refuses(STATE, "unsubscribe", 1, 0).refuses(STATE, "unsubscribe", 1, 11);
        page.answers(1, "unsubscribe", 0, 0).refuses(STATE, "unsubscribe", 0, 0).answers(0, "unsubscribe", 0, 11).refuses(STATE, "unsubscribe", 0, 11);
        // a subscription to a group is none to what is below it
        page.does("subscribe", 1, 5).refuses(STATE, "unsubscribe", 1, 11).answers(2, "subscribe", 1, 11);
    }

    private static void noSuchPerson() {
        Page page = page("Throws `NoSuchElementException` if there is no such person or no such component");
        page.does("addPerson", 1).does("addPerson", 1).does("subscribe", 0, 0).does("subscribe", 1, 11);
        for (int p : new int[] {LEAST, LEAST + 1, -2, -1, 2, 3, 5, 6, MOST - 1, MOST}) {
            page.refuses(MISSING, "subscribe", p, 1).refuses(MISSING, "unsubscribe", p, 0);
        }
        for (int c : new int[] {LEAST, LEAST + 1, -2, -1, 12, 13, 31, 32, 33, 43, MOST - 1, MOST}) {
            page.refuses(MISSING, "subscribe", 0, c).refuses(MISSING, "unsubscribe", 0, c).refuses(MISSING, "unsubscribe", 1, c);
        }
    }

    private static void noSuchPersonAsked() {
        Page page = new Page("Throws `NoSuchElementException` if there is no such person");
        page.does("addPerson", 1).does("addPerson", 1);
        for (int p : new int[] {LEAST, LEAST + 1, -2, -1, 2, 3, 5, 6, MOST - 1, MOST}) {
            page.refuses(MISSING, "subscriptions", p).refuses(MISSING, "mailsTo", p);
        }
    }

    public static void main(String[] args) {
        atMostSix();
        leastLevels();
        withoutSubscriptions();
        subscribing();
        subscribingTwice();
        unsubscribingTwice();
        noSuchPerson();
        noSuchPersonAsked();
        end("PeopleTest");
    }
}
