/** "States", and promises 24, 25, 27 and 31: states, their rules, and the worst leaf. */
public final class StatesTest extends Check {
    private static Page leaf(String... words) {
        return new Page(words).does("addComponent", -1, 1, 's');
    }

    private static void withoutIncidents() {
        leaf("and 'u' if there is none.").answers('u', "state", 0).does("pass", 600).answers('u', "state", 0).answers('u', "stateAt", 0, 0);
        leaf("and 'u' if there is none.").does("report", 0, 3, 0).does("resolve", 0, 0).answers('u', "state", 0);
        leaf("and 'u' if there is none.").does("report", 0, 3, 0).does("withdraw", 0).answers('u', "state", 0);
        leaf("and 'u' if there is none.").does("pass", 5).does("report", 0, 3, 5).answers('u', "stateAt", 0, 4);
        // an incident of another component
        leaf("and 'u' if there is none.").does("addComponent", -1, 1, 'w').does("report", 1, 3, 0).answers('u', "state", 0).answers('m', "state", 1);
    }

    private static void signs() {
        char[] due = {'u', 'd', 'p', 'm'};
        for (int level = 1; level <= 3; level++) {
            leaf("There are four states: 'u', up, with the level 0 and the loss 0; 'd', degraded, with the level 1 and the loss 25;").does("report", 0, level, 0).answers(due[level], "state", 0);
        }
    }

    private static void greatestOfALeaf() {
        Page page = leaf("The state of a leaf in a minute is that with the greatest level of an incident of it that covers the minute");
        page.does("pass", 20).does("report", 0, 1, 5).answers('d', "state", 0).does("report", 0, 3, 8).answers('m', "state", 0).does("report", 0, 2, 7).answers('m', "state", 0);
        page.does("resolve", 1, 10).answers('p', "state", 0);
        char[] due = {'u', 'd', 'd', 'p', 'm', 'm', 'p'};
        for (int i = 0; i < due.length; i++) {
            page.answers(due[i], "stateAt", 0, i + 4);
        }
        page.answers('u', "stateAt", 0, 0).answers('p', "stateAt", 0, 20).does("correct", 2, 1, 7).answers('d', "state", 0).does("withdraw", 2).answers('d', "state", 0);
    }

    /** The first and the last incident that there may be, alone. */
    private static void greatestOfTwenty() {
        Page page = leaf("the greatest level of an incident of it");
        for (int i = 0; i < 20; i++) {
            page.does("report", 0, i == 0 || i == 19 ? 3 : 1, 0);
        }
        page.answers('m', "state", 0).copy().does("withdraw", 0).answers('m', "state", 0).does("withdraw", 19).answers('d', "state", 0);
        page.does("withdraw", 19).answers('m', "state", 0).does("correct", 0, 2, 0).answers('p', "state", 0);
    }

    private static void greatestOfAGroup() {
        Page page = new Page("The state of a group with the rule 'w' is the one with the greatest level of its children, that is, of the components whose parent it is.");
        page.does("addComponent", -1, 1, 'w').does("addComponent", 0, 1, 'w').does("addComponent", 1, 9, 'w').does("addComponent", 0, 1, 'w');
        page.answers('u', "state", 0).does("report", 3, 1, 0).answers('d', "state", 0).answers('u', "state", 1).does("report", 2, 2, 0).answers('p', "state", 1).answers('p', "state", 0);
        page.does("report", 3, 3, 0).answers('m', "state", 0).answers('p', "state", 1).answers(75, "weightedLoss", 0);
    }

    /** The children count, not what is below them: a child of the rule 's' makes less of what is below it. */
    private static void childrenOnly() {
        Page page = new Page("of the components whose parent it is");
        page.does("addComponent", -1, 1, 'w').does("addComponent", 0, 1, 's').does("addComponent", 1, 1, 'w').does("addComponent", 1, 9, 'w').does("report", 2, 3, 0);
        page.answers('m', "state", 2).answers('d', "state", 1).answers('d', "state", 0).answers(10, "weightedLoss", 1).answers(25, "weightedLoss", 0);
    }

    /** A chain of twelve and a star of twelve: the deepest and the widest groups. */
    private static void largestGroups() {
        Page chain = new Page("The state of a group with the rule 'w' is the one with the greatest level of its children");
        Page star = new Page("The state of a group with the rule 'w' is the one with the greatest level of its children");
        for (int c = 0; c < 12; c++) {
            chain.does("addComponent", c - 1, 9, c % 2 == 0 ? 'w' : 's');
            star.does("addComponent", c == 0 ? -1 : 0, 9, 'w');
        }
        chain.does("report", 11, 2, 0);
        for (int c = 0; c < 12; c++) {
            chain.answers('p', "state", c);
        }
        for (int c = 1; c < 12; c++) {
            star.copy().answers('u', "state", 0).does("report", c, 3, 0).answers('m', "state", 0).answers(c, "worst").answers(9, "weightedLoss", 0);
        }
        for (int c = 1; c < 12; c++) {
            star.answers((c - 1) * 100 / 11, "weightedLoss", 0).does("report", c, 3, 0);
        }
        star.answers(100, "weightedLoss", 0);
    }

    /** Levels and weights of the children of a group with the rule 's', and its loss and state. */
    private static void mean(String words, int loss, char state, int... weightsAndLevels) {
        Page page = new Page(words).does("addComponent", -1, 5, 's');
        int incidents = 0;
        for (int c = 1; c <= weightsAndLevels.length / 2; c++) {
            page.does("addComponent", 0, weightsAndLevels[2 * c - 2], c % 2 == 0 ? 's' : 'w');
        }
        for (int c = 1; c <= weightsAndLevels.length / 2; c++) {
            if (weightsAndLevels[2 * c - 1] > 0) {
                page.answers(incidents++, "report", c, weightsAndLevels[2 * c - 1], 0);
            }
        }
        page.answers(loss, "weightedLoss", 0).answers(state, "state", 0).answers(state, "stateAt", 0, 0);
    }

    private static void losses() {
        String words = "'p', a partial outage, with the level 2 and the loss 50; and 'm', a major outage, with the level 3 and the loss 100.";
        mean(words, 0, 'u', 1, 0);
        mean(words, 25, 'd', 9, 1);
        mean(words, 50, 'p', 1, 2);
        mean(words, 100, 'm', 9, 3);
    }

    private static void weightedMeans() {
        String words = "For the rule 's', the losses of the children, each times the weight of the child, are added, and divided by the sum of the weights, rounded down;";
        mean(words, 2, 'd', 1, 1, 9, 0);
        mean(words, 90, 'm', 9, 3, 1, 0);
        mean(words, 32, 'd', 1, 3, 9, 1);
        mean(words, 37, 'p', 1, 2, 1, 1);
        mean(words, 60, 'p', 9, 1, 8, 3);
        mean(words, 25, 'd', 9, 1, 9, 1);
        mean(words, 87, 'm', 3, 2, 9, 3);
        mean(words, 1, 'd', 1, 2, 9, 0, 9, 0, 9, 0);
    }

    private static void upToNothing() {
        String words = "with 0 the state is 'u'";
        mean(words, 0, 'u', 1, 0, 9, 0);
        mean(words, 0, 'u', 1, 1, 9, 0, 9, 0, 9, 0);
        mean(words, 0, 'u', 1, 1, 7, 0, 9, 0, 9, 0);
        mean("up to 33 it is 'd'", 1, 'd', 1, 1, 6, 0, 9, 0, 9, 0);
        mean("up to 33 it is 'd'", 1, 'd', 1, 1, 9, 0, 9, 0);
    }

    private static void upTo33() {
        String words = "up to 33 it is 'd'";
        mean(words, 32, 'd', 5, 3, 8, 0, 9, 1);
        mean(words, 33, 'd', 8, 1, 8, 2, 9, 1);
        mean(words, 33, 'd', 1, 0, 2, 2);
        mean(words, 33, 'd', 5, 2, 9, 1);
        mean("up to 66 it is 'p'", 34, 'p', 7, 1, 9, 1, 9, 2);
        mean("up to 66 it is 'p'", 34, 'p', 4, 2, 7, 1);
    }

    private static void upTo66() {
        String words = "up to 66 it is 'p'";
        mean(words, 65, 'p', 5, 1, 6, 3);
        mean(words, 66, 'p', 8, 2, 8, 3, 9, 2);
        mean(words, 66, 'p', 1, 0, 2, 3);
        mean(words, 66, 'p', 3, 1, 7, 0, 9, 3, 9, 3);
        mean("and otherwise it is 'm'", 67, 'm', 1, 1, 6, 2, 9, 2, 9, 3);
        mean("and otherwise it is 'm'", 67, 'm', 3, 1, 8, 2, 8, 3);
        mean("and otherwise it is 'm'", 97, 'm', 1, 2, 9, 3, 9, 3);
        mean("and otherwise it is 'm'", 100, 'm', 4, 3, 9, 3);
    }

    /** The loss of a child that is a group is that of its state, not the one that its state was found from. */
    private static void lossOfAGroup() {
        Page page = new Page("the losses of the children");
        page.does("addComponent", -1, 1, 's').does("addComponent", 0, 1, 's').does("addComponent", 1, 1, 'w').does("addComponent", 1, 1, 'w').does("addComponent", 1, 1, 'w');
        page.does("report", 2, 3, 0).answers(33, "weightedLoss", 1).answers('d', "state", 1).answers(25, "weightedLoss", 0).answers('d', "state", 0);
        page.does("report", 3, 3, 0).answers(66, "weightedLoss", 1).answers('p', "state", 1).answers(50, "weightedLoss", 0).answers('p', "state", 0);
        page.does("report", 4, 1, 0).answers(75, "weightedLoss", 1).answers('m', "state", 1).answers(100, "weightedLoss", 0).answers('m', "state", 0);
    }

    private static void weightedLoss() {
        Page page = new Page("Returns the loss of a group by the rule 's' in the present minute, whatever its rule is.",
            "Returns the sum of the losses of its children times their weights, divided by the sum of the weights, rounded down.");
        page.does("addComponent", -1, 1, 'w').does("addComponent", 0, 2, 'w').does("addComponent", 0, 1, 'w').does("pass", 8).answers(0, "weightedLoss", 0);
        page.does("report", 1, 3, 4).answers(66, "weightedLoss", 0).answers('m', "state", 0).does("resolve", 0, 8).answers(0, "weightedLoss", 0);
        page.answers('m', "stateAt", 0, 7).answers(0, "weightedLoss", 0).does("report", 2, 2, 8).answers(16, "weightedLoss", 0).does("setWeight", 2, 9).answers(40, "weightedLoss", 0);
        // what is excused still has its loss
        page.does("maintain", 0, 8, 9).answers(40, "weightedLoss", 0).answers('p', "state", 0).does("pass", 1).answers(40, "weightedLoss", 0);
    }

    private static void lossOfALeaf() {
        Page page = leaf("Throws `UnsupportedOperationException` if it is a leaf").refuses(KIND, "weightedLoss", 0).does("report", 0, 3, 0).refuses(KIND, "weightedLoss", 0);
        page.does("addComponent", -1, 1, 'w').refuses(KIND, "weightedLoss", 1).does("addComponent", 1, 1, 'w').answers(0, "weightedLoss", 1).refuses(KIND, "weightedLoss", 2);
    }

    private static void minuteOfAState() {
        Page page = leaf("`minute`: the minute, 0 to the present one", "Throws `IllegalArgumentException` if the minute is out of range").does("report", 0, 3, 0).answers('m', "stateAt", 0, 0).refuses(RANGE, "stateAt", 0, 1);
        page.does("pass", 20).answers('m', "stateAt", 0, 0).answers('m', "stateAt", 0, 20);
        for (int minute : new int[] {LEAST, LEAST + 1, -2, -1, 21, 22, 9999, 10000, MOST - 1, MOST}) {
            page.refuses(RANGE, "stateAt", 0, minute);
        }
        for (int i = 0; i < 16; i++) {
            page.does("pass", 600);
        }
        page.does("pass", 379).answers('m', "stateAt", 0, 9999).refuses(RANGE, "stateAt", 0, 10000).refuses(RANGE, "stateAt", 0, -1);
    }

    private static void asTheyAreNow() {
        Page page = leaf("Returns the state of a component in a minute, by the incidents as they are now.").does("pass", 9).does("report", 0, 2, 3);
        page.answers('p', "stateAt", 0, 3).does("correct", 0, 3, 5).answers('u', "stateAt", 0, 3).answers('u', "stateAt", 0, 4).answers('m', "stateAt", 0, 5);
        page.does("resolve", 0, 7).answers('m', "stateAt", 0, 6).answers('u', "stateAt", 0, 7).does("withdraw", 0).answers('u', "stateAt", 0, 5);
        page.does("report", 0, 1, 0).answers('d', "stateAt", 0, 0).answers('d', "state", 0);
    }

    private static void presentMinute() {
        Page page = new Page("Returns the state of a component in the present minute.");
        page.does("addComponent", -1, 1, 'w').does("addComponent", -1, 1, 's').does("addComponent", 1, 9, 'w').does("pass", 8);
        page.does("report", 0, 1, 5).does("report", 2, 3, 4).does("resolve", 1, 8).answers('m', "stateAt", 2, 4).answers('u', "state", 2);
        page.answers('m', "stateAt", 2, 4).answers(0, "worst").answers(5000, "uptime", 2, 0).answers(0, "worst").answers('m', "stateAt", 2, 7).answers('d', "state", 0);
        page.answers('m', "stateAt", 1, 7).answers(0, "weightedLoss", 1).answers('m', "stateAt", 1, 7).answers('u', "state", 1);
        page.does("report", 2, 2, 8).answers('p', "state", 2).answers('m', "stateAt", 2, 7).does("pass", 1).answers('p', "state", 2);
    }

    private static void worst() {
        Page page = new Page("Returns the leaf with the greatest loss times weight in the present minute; of several, the one with the lowest number.");
        page.does("addComponent", -1, 9, 'w').does("addComponent", 0, 4, 'w').does("addComponent", 0, 2, 'w').does("addComponent", 0, 1, 'w').does("pass", 5);
        page.does("report", 3, 1, 5).answers(3, "worst").does("report", 2, 2, 5).answers(2, "worst").does("report", 1, 1, 5).answers(1, "worst");
        page.does("correct", 0, 3, 5).answers(1, "worst").does("setWeight", 3, 2).answers(3, "worst").does("resolve", 0, 5).answers(1, "worst");
        page.does("setWeight", 1, 3).answers(2, "worst").does("maintain", 2, 5, 9).answers(2, "worst").does("withdraw", 1).answers(1, "worst");
        // the loss counts, not the level
        page = new Page("the greatest loss times weight").does("addComponent", -1, 3, 'w').does("addComponent", -1, 1, 'w').does("addComponent", -1, 5, 'w');
        page.does("report", 0, 1, 0).does("report", 1, 3, 0).answers(1, "worst").does("report", 2, 1, 0).answers(2, "worst");
        page.does("setWeight", 2, 4).answers(1, "worst").does("correct", 0, 2, 0).answers(0, "worst").does("setWeight", 0, 2).answers(0, "worst");
        // a group counts with none of its losses, nor with its weight
        page = new Page("Returns the leaf with the greatest loss times weight").does("addComponent", -1, 9, 'w').does("addComponent", 0, 1, 'w').does("addComponent", -1, 2, 'w');
        page.does("report", 1, 3, 0).answers(1, "worst").does("report", 2, 1, 0).answers(1, "worst").does("correct", 1, 3, 0).answers(2, "worst");
    }

    private static void worstOfAll() {
        Page page = new Page("of several, the one with the lowest number.");
        for (int c = 0; c < 12; c++) {
            page.does("addComponent", -1, 1, 'w');
        }
        for (int c = 11; c >= 0; c--) {
            page.does("report", c, 1, 0).answers(c, "worst");
        }
        page.does("setWeight", 11, 2).answers(11, "worst").does("setWeight", 0, 2).answers(0, "worst").does("setWeight", 11, 3).answers(11, "worst");
    }

    private static void allAreUp() {
        Page page = new Page("Throws `NoSuchElementException` if all leaves are up, or there are none").refuses(MISSING, "worst");
        page.does("addComponent", -1, 9, 'w').refuses(MISSING, "worst").does("addComponent", 0, 9, 's').refuses(MISSING, "worst").does("pass", 3);
        page.does("report", 1, 1, 0).answers(1, "worst").does("resolve", 0, 3).refuses(MISSING, "worst").does("report", 1, 1, 3).answers(1, "worst").does("withdraw", 1).refuses(MISSING, "worst");
    }

    private static void noSuchComponent() {
        Page page = leaf("Throws `NoSuchElementException` if there is no such component").does("addComponent", 0, 1, 'w').does("pass", 5);
        for (int c : new int[] {LEAST, LEAST + 1, -2, -1, 2, 3, 11, 12, 32, MOST - 1, MOST}) {
            page.refuses(MISSING, "state", c).refuses(MISSING, "stateAt", c, 0).refuses(MISSING, "stateAt", c, 6).refuses(MISSING, "weightedLoss", c);
        }
    }

    public static void main(String[] args) {
        withoutIncidents();
        signs();
        greatestOfALeaf();
        greatestOfTwenty();
        greatestOfAGroup();
        childrenOnly();
        largestGroups();
        losses();
        weightedMeans();
        upToNothing();
        upTo33();
        upTo66();
        lossOfAGroup();
        weightedLoss();
        lossOfALeaf();
        minuteOfAState();
        asTheyAreNow();
        presentMinute();
        worst();
        worstOfAll();
        allAreUp();
        noSuchComponent();
        end("StatesTest");
    }
}
