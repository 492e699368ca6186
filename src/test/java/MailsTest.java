/** "Subscribers", and promises 41 to 46: who is told of what by promises 7 to 10. */
public final class MailsTest extends Check {
    /** 0 over 1 and 2, 1 over 3 and 4, and 5 alone, in the minute 10. */
    private static Page page(String... words) {
        Page page = new Page(words);
        for (int parent : new int[] {-1, 0, 0, 1, 1, -1}) {
            page.does("addComponent", parent, 1, 'w');
        }
        return page.does("pass", 10);
    }

    /** Adds the next person. */
    private static void person(Page page, int number, int least, int... components) {
        page.answers(number, "addPerson", least);
        for (int component : components) {
            page.does("subscribe", number, component);
        }
    }

    /** The last mail, which has this number. */
    private static void last(Page page, int mail, int person, int component, char state, int minute) {
        tells(page, mail, person, component, state, minute);
        page.answers(mail + 1, "mails");
        for (String name : new String[] {"mailPerson", "mailComponent", "mailState", "mailMinute"}) {
            page.refuses(MISSING, name, mail + 1);
        }
    }

    private static void tells(Page page, int mail, int person, int component, char state, int minute) {
        page.answers(person, "mailPerson", mail).answers(component, "mailComponent", mail).answers(state, "mailState", mail).answers(minute, "mailMinute", mail);
    }

    private static void fourCalls() {
        Page page = page("When the states of components in the present minute are changed by a call of report, resolve, correct or withdraw",
            "`mail`: the mail, from 0 in the order in which they were sent");
        person(page, 0, 1, 3);
        last(page.does("report", 3, 1, 10), 0, 0, 3, 'd', 10);
        last(page.does("pass", 1).does("correct", 0, 3, 10), 1, 0, 3, 'm', 11);
        last(page.does("correct", 0, 2, 4), 2, 0, 3, 'p', 11);
        last(page.does("pass", 1).does("resolve", 0, 12), 3, 0, 3, 'u', 12);
        last(page.does("report", 3, 3, 0), 4, 0, 3, 'm', 12);
        last(page.does("withdraw", 1), 5, 0, 3, 'u', 12);
        page.answers(6, "mailsTo", 0);
    }

    private static void correctionsOfStarts() {
        Page page = page("whose state has been changed");
        person(page, 0, 1, 3);
        page.does("report", 3, 2, 5).does("correct", 0, 2, 10).does("correct", 0, 2, 0).answers(1, "mails");
        // an incident that is resolved covers no present minute, wherever it begins
        page.does("resolve", 0, 10).answers(2, "mails").does("correct", 0, 3, 10).does("correct", 0, 3, 0).answers(2, "mails");
    }

    /** A change of the weights, the tree, the maintenance or the minute changes states as well, but tells nobody. */
    private static void otherCalls() {
        Page page = new Page("by a call of report, resolve, correct or withdraw").does("addComponent", -1, 1, 's').does("addComponent", 0, 1, 'w').does("addComponent", 0, 1, 'w');
        person(page, 0, 1, 0, 1, 2);
        page.does("report", 1, 3, 0).answers(1, "mails").answers('p', "state", 0).does("setWeight", 1, 9).answers('m', "state", 0).answers(1, "mails");
        page.does("addComponent", 0, 9, 'w').answers('p', "state", 0).answers(1, "mails").does("maintain", 0, 0, 5).does("callOff", 0).does("pass", 600).answers(1, "mails");
        page.does("report", 1, 3, 0).does("join", 0, 1).does("addPerson", 1).does("subscribe", 1, 0).does("unsubscribe", 1, 0).answers(1, "mails");
    }

    private static void pastMinutesOnly() {
        Page page = page("in the present minute");
        person(page, 0, 1, 0, 1, 2, 3, 4, 5);
        page.does("report", 3, 2, 5).answers(1, "mails").does("report", 3, 2, 0).does("report", 3, 1, 0).answers(1, "mails");
        page.does("resolve", 1, 9).does("withdraw", 1).does("correct", 1, 3, 0).does("correct", 0, 2, 8).answers(1, "mails");
        page.does("withdraw", 2).answers(1, "mails").does("resolve", 0, 10).answers(2, "mails");
        page.does("report", 3, 1, 10).answers(3, "mails").does("report", 3, 1, 10).does("withdraw", 3).answers(3, "mails");
    }

    private static void orderOfPeople() {
        Page page = page("each person, in the order of their numbers, gets at most one mail");
        for (int p = 0; p < 6; p++) {
            page.does("addPerson", 1);
        }
        for (int p = 5; p >= 0; p--) {
            page.does("subscribe", p, p % 2 == 0 ? 3 : 1).does("subscribe", p, 0);
        }
        page.does("report", 3, 1, 10).answers(6, "mails");
        for (int p = 0; p < 6; p++) {
            tells(page, p, p, 0, 'd', 10);
            page.answers(1, "mailsTo", p);
        }
        page.does("unsubscribe", 0, 0).does("unsubscribe", 4, 0).does("unsubscribe", 4, 3).does("correct", 0, 2, 10).answers(11, "mails");
        int[] told = {0, 1, 2, 3, 5};
        for (int i = 0; i < 5; i++) {
            tells(page, 6 + i, told[i], i == 0 ? 3 : 0, 'p', 10);
        }
    }

    private static void atMostOne() {
        Page page = page("gets at most one mail", "Nobody is told of the same change twice.");
        person(page, 0, 1, 0, 1, 2, 3, 4, 5);
        last(page.does("report", 3, 1, 10), 0, 0, 0, 'd', 10);
        last(page.does("report", 4, 2, 10), 1, 0, 0, 'p', 10);
        last(page.does("report", 3, 2, 10), 2, 0, 3, 'p', 10);
        last(page.does("report", 2, 3, 10), 3, 0, 0, 'm', 10);
        last(page.does("report", 3, 3, 10), 4, 0, 1, 'm', 10);
        last(page.does("report", 5, 1, 10), 5, 0, 5, 'd', 10);
    }

    private static void subscribedOnly() {
        Page page = page("of the components to which the person has subscribed");
        person(page, 0, 1);
        person(page, 1, 1, 4, 2, 5);
        person(page, 2, 1, 1);
        page.does("report", 3, 3, 10).answers(1, "mails");
        last(page, 0, 2, 1, 'm', 10);
        page.does("unsubscribe", 2, 1).does("withdraw", 0).answers(1, "mails").does("subscribe", 0, 3).does("subscribe", 2, 0).does("subscribe", 2, 1);
        page.does("report", 3, 1, 10).answers(3, "mails");
        tells(page, 1, 0, 3, 'd', 10);
        tells(page, 2, 2, 0, 'd', 10);
        page.answers(0, "mailsTo", 1).answers(1, "mailsTo", 0).answers(2, "mailsTo", 2);
    }

    private static void excusedInThePresentMinute() {
        Page page = page("which are not excused in the present minute");
        person(page, 0, 1, 3);
        page.does("maintain", 3, 11, 13).does("report", 3, 1, 0).answers(1, "mails").does("pass", 1).does("correct", 0, 2, 0).answers(1, "mails");
        page.does("pass", 1).does("correct", 0, 3, 0).answers(1, "mails").does("pass", 1);
        last(page.does("correct", 0, 1, 0), 1, 0, 3, 'd', 13);
        // announced for the present minute, and called off in it
        page.does("maintain", 3, 13, 14).does("correct", 0, 2, 0).answers(2, "mails").does("callOff", 1);
        last(page.does("correct", 0, 3, 0), 2, 0, 3, 'm', 13);
        // the minutes that change may be excused ones, if the present one is not
        page.does("pass", 1).does("withdraw", 0).answers(4, "mails").does("report", 3, 2, 11).answers(5, "mails");
    }

    private static void excusedFromAbove() {
        Page page = page("which are not excused in the present minute");
        person(page, 0, 1, 0, 1, 3);
        person(page, 1, 1, 3);
        person(page, 2, 1, 1, 3);
        page.does("maintain", 1, 10, 20).does("maintain", 3, 20, 30).does("maintain", 0, 40, 50).does("maintain", 4, 10, 50);
        last(page.does("report", 3, 1, 0), 0, 0, 0, 'd', 10);
        page.does("pass", 10).does("correct", 0, 2, 0).answers(3, "mails");
        tells(page, 1, 0, 0, 'p', 20);
        tells(page, 2, 2, 1, 'p', 20);
        page.does("pass", 10).does("correct", 0, 3, 0).answers(6, "mails");
        tells(page, 3, 0, 0, 'm', 30);
        tells(page, 4, 1, 3, 'm', 30);
        tells(page, 5, 2, 1, 'm', 30);
        page.does("pass", 10).does("correct", 0, 1, 0).answers(6, "mails").does("pass", 9).does("withdraw", 0).answers(6, "mails");
        page.does("pass", 1).does("report", 3, 1, 50).answers(9, "mails");
    }

    private static void leastLevels() {
        Page page = page("and for which the greater one of the levels before and behind the call is not less than the least level of the person");
        int[][] due = {{0, 1, 1}, {1, 0, 1}, {0, 2, 2}, {2, 0, 2}, {0, 3, 3}, {3, 0, 3}, {1, 2, 2}, {2, 1, 2}, {1, 3, 3}, {3, 1, 3}, {2, 3, 3}, {3, 2, 3}};
        for (int p = 0; p < 3; p++) {
            person(page, p, p + 1, 5);
        }
        for (int[] levels : due) {
            changes(page.copy(), levels[0], levels[1], levels[2]);
        }
    }

    /** The people 0 to told - 1 get a mail of the change from one level to another one. */
    private static void changes(Page page, int before, int behind, int told) {
        page.does("report", 5, Math.max(before, 1), 10);
        if (before == 0) {
            page.does("withdraw", 0);
        }
        int mails = before == 0 ? 2 : before;
        if (behind == 0) {
            page.does("resolve", 0, 10);
        } else if (before == 0) {
            page.does("report", 5, behind, 10);
        } else {
            page.does("correct", 0, behind, 10);
        }
        page.answers(mails + told, "mails");
        for (int p = 0; p < 3; p++) {
            page.answers((p < told ? 1 : 0) + (before == 0 ? p == 0 ? 2 : 0 : p < before ? 1 : 0), "mailsTo", p);
        }
        for (int p = 0; p < told; p++) {
            tells(page, mails + p, p, 5, "udpm".charAt(behind), 10);
        }
    }

    /** The levels are those of the component, not those of the incident. */
    private static void levelsOfEach() {
        Page page = new Page("and for which the greater one of the levels").does("addComponent", -1, 1, 's').does("addComponent", 0, 1, 'w').does("addComponent", 0, 1, 'w').does("addComponent", 0, 1, 'w');
        person(page, 0, 3, 0, 1);
        person(page, 1, 1, 0, 1);
        page.does("report", 1, 3, 0).answers('d', "state", 0).answers(2, "mails");
        tells(page, 0, 0, 1, 'm', 0);
        tells(page, 1, 1, 0, 'd', 0);
        page.does("correct", 0, 2, 0).answers('d', "state", 0).answers(4, "mails");
        tells(page, 2, 0, 1, 'p', 0);
        tells(page, 3, 1, 1, 'p', 0);
        page.does("report", 2, 3, 0).answers('p', "state", 0).answers(5, "mails");
        tells(page, 4, 1, 0, 'p', 0);
    }

    private static void fewestAbove() {
        Page page = page("it is about the one with the fewest components that it is below");
        person(page, 0, 1, 3, 1, 0);
        person(page, 1, 1, 3, 1);
        person(page, 2, 1, 3);
        person(page, 3, 1, 4, 2, 5);
        person(page, 4, 1, 5, 1, 3);
        page.does("report", 3, 1, 10).answers(4, "mails");
        tells(page, 0, 0, 0, 'd', 10);
        tells(page, 1, 1, 1, 'd', 10);
        tells(page, 2, 2, 3, 'd', 10);
        tells(page, 3, 4, 1, 'd', 10);
        page.does("report", 2, 2, 10).answers(6, "mails");
        tells(page, 4, 0, 0, 'p', 10);
        tells(page, 5, 3, 2, 'p', 10);
    }

    /** One call changes a leaf and what is above it alone, so no two of one depth; but the numbers of branches may cross. */
    private static void branches() {
        Page page = new Page("of several about the one with the lowest number");
        for (int parent : new int[] {-1, -1, 1, 2, 0, 4}) {
            page.does("addComponent", parent, 1, 'w');
        }
        person(page, 0, 1, 5, 4, 3, 2);
        last(page.does("report", 3, 1, 0), 0, 0, 2, 'd', 0);
        last(page.does("report", 5, 1, 0), 1, 0, 4, 'd', 0);
    }

    private static void deepest() {
        Page page = new Page("the fewest components that it is below");
        for (int c = 0; c < 12; c++) {
            page.does("addComponent", c - 1, 1, 'w');
        }
        person(page, 0, 1);
        page.does("report", 11, 1, 0).answers(0, "mails");
        for (int c = 11; c >= 0; c--) {
            page.does("subscribe", 0, c);
            last(page.does("correct", 0, c % 3 + 1 == 2 ? 3 : 2, 0).does("correct", 0, 1, 0), 23 - 2 * c, 0, c, 'd', 0);
        }
    }

    private static void whatItTells() {
        Page page = page("The mail tells the component, its state behind the call, and the minute.");
        person(page, 0, 1, 5);
        page.does("report", 5, 3, 2);
        last(page, 0, 0, 5, 'm', 10);
        last(page.does("pass", 600).does("correct", 0, 1, 2), 1, 0, 5, 'd', 610);
        // it stays as it was told
        page.does("correct", 0, 1, 0).does("unsubscribe", 0, 5).does("withdraw", 0).does("pass", 1);
        tells(page, 0, 0, 5, 'm', 10);
        last(page, 1, 0, 5, 'd', 610);
        page.answers(2, "mailsTo", 0).does("subscribe", 0, 4).answers(2, "mailsTo", 0);
    }

    private static void firstAndLastMinute() {
        Page page = new Page("and the minute").does("addComponent", -1, 1, 'w');
        person(page, 0, 1, 0);
        last(page.does("report", 0, 1, 0), 0, 0, 0, 'd', 0);
        for (int i = 0; i < 16; i++) {
            page.does("pass", 600);
        }
        last(page.does("pass", 399).does("resolve", 0, 9999), 1, 0, 0, 'u', 9999);
    }

    private static void refusedCalls() {
        Page page = page("A method that throws an exception changes nothing.");
        person(page, 0, 1, 0, 5);
        page.does("report", 5, 1, 0).does("report", 5, 2, 0).does("resolve", 1, 4).answers(3, "mails");
        page.refuses(RANGE, "report", 5, 3, 11).refuses(RANGE, "resolve", 0, 11).refuses(RANGE, "correct", 0, 3, 11).refuses(STATE, "resolve", 1, 10);
        page.does("withdraw", 0).refuses(STATE, "withdraw", 0).refuses(KIND, "report", 0, 3, 10);
    }

    private static void noSuchMail() {
        Page page = page("Throws `NoSuchElementException` if there is no such mail");
        person(page, 0, 1, 5);
        for (int mails = 0; mails < 3; mails++) {
            for (int m : new int[] {LEAST, LEAST + 1, -2, -1, mails, mails + 1, 15, 16, 17, 3072, 1 << 28, 1 << 29, 1 << 30, MOST - 1, MOST}) {
                for (String name : new String[] {"mailPerson", "mailComponent", "mailState", "mailMinute"}) {
                    page.refuses(MISSING, name, m);
                }
            }
            page.answers(mails, "mails").answers(mails, "mailsTo", 0).does("report", 5, mails + 1, 10);
        }
    }

    private static void noMails() {
        Page page = page("Returns the number of mails to a person.");
        person(page, 0, 3, 5);
        person(page, 1, 1, 5);
        page.answers(0, "mailsTo", 0).answers(0, "mailsTo", 1).does("report", 5, 2, 10).answers(0, "mailsTo", 0).answers(1, "mailsTo", 1).answers(1, "mails");
        for (int p : new int[] {LEAST, LEAST + 1, -2, -1, 2, 3, 5, 6, MOST - 1, MOST}) {
            page.refuses(MISSING, "mailsTo", p);
        }
    }

    public static void main(String[] args) {
        fourCalls();
        correctionsOfStarts();
        otherCalls();
        pastMinutesOnly();
        orderOfPeople();
        atMostOne();
        subscribedOnly();
        excusedInThePresentMinute();
        excusedFromAbove();
        leastLevels();
        levelsOfEach();
        fewestAbove();
        branches();
        deepest();
        whatItTells();
        firstAndLastMinute();
        refusedCalls();
        noSuchMail();
        noMails();
        end("MailsTest");
    }
}
