/** "Components", and promises 2, 3, 15 and 19 to 23: the tree of components. */
public final class ComponentsTest extends Check {
    /** 0 over 1 and 2, 1 over 3 and 5, 2 over 4, and 6 alone. */
    private static Page tree(String... words) {
        Page page = new Page(words);
        int[] parents = {-1, 0, 0, 1, 2, 1, -1};
        for (int c = 0; c < parents.length; c++) {
            page.answers(c, "addComponent", parents[c], c + 1, c % 2 == 0 ? 'w' : 's');
        }
        return page;
    }

    /** Each component below the one ahead of it. */
    private static Page chain(String... words) {
        Page page = new Page(words);
        for (int c = 0; c < 12; c++) {
            page.answers(c, "addComponent", c - 1, 1, 'w');
        }
        return page;
    }

    /** All components below the first one. */
    private static Page star(String... words) {
        Page page = new Page(words);
        for (int c = 0; c < 12; c++) {
            page.answers(c, "addComponent", c == 0 ? -1 : 0, 1, 's');
        }
        return page;
    }

    private static void atMostTwelve() {
        Page page = new Page("At most 12 components have numbers from 0.");
        for (int c = 0; c < 12; c++) {
            page.answers(c, "components").refuses(MISSING, "depth", c).answers(c, "addComponent", -1, 1, 'w').answers(0, "depth", c);
        }
        page.answers(12, "components").refuses(STATE, "addComponent", -1, 1, 'w').refuses(STATE, "addComponent", 11, 9, 's');
        page.answers(12, "components").refuses(MISSING, "depth", 12);
    }

    private static void aThirteenth() {
        chain("Throws `IllegalStateException` if there are 12 components").refuses(STATE, "addComponent", 11, 1, 'w').refuses(STATE, "addComponent", -1, 1, 's');
        star("Throws `IllegalStateException` if there are 12 components").refuses(STATE, "addComponent", 0, 1, 'w').refuses(STATE, "addComponent", -1, 1, 's');
    }

    private static void parentAddedBefore() {
        Page page = new Page("A component has a parent, which was added before, or none");
        page.refuses(MISSING, "addComponent", 0, 1, 'w').answers(0, "addComponent", -1, 1, 'w');
        page.refuses(MISSING, "addComponent", 1, 1, 'w').answers(1, "addComponent", 0, 1, 'w');
        page.refuses(MISSING, "addComponent", 2, 1, 'w').answers(2, "addComponent", 1, 1, 'w');
        page.refuses(MISSING, "addComponent", 3, 1, 'w').refuses(MISSING, "addComponent", -2, 1, 'w');
        page.answers(2, "pathAt", 2, 2).answers(1, "pathAt", 2, 1).answers(0, "pathAt", 2, 0);
    }

    private static void noParent() {
        Page page = new Page("`parent`: the parent, or -1 for none", "Throws `NoSuchElementException` if the parent is not -1, and there is no such component");
        page.does("addComponent", -1, 1, 'w').does("addComponent", -1, 1, 'w').answers(0, "depth", 0).answers(0, "depth", 1);
        for (int parent : new int[] {LEAST, LEAST + 1, -3, -2, 2, 3, 12, MOST - 1, MOST}) {
            page.refuses(MISSING, "addComponent", parent, 1, 'w');
        }
        page.answers(2, "addComponent", 1, 1, 'w').answers(3, "addComponent", 0, 1, 'w').answers(1, "depth", 2).answers(1, "depth", 3);
    }

    private static void weightsOfNewOnes() {
        Page page = new Page("a weight from 1 to 9", "Throws `IllegalArgumentException` if the weight or the rule is out of range");
        for (int weight : new int[] {LEAST, LEAST + 1, -9, -1, 0, 10, 11, MOST - 1, MOST}) {
            page.refuses(RANGE, "addComponent", -1, weight, 'w').refuses(RANGE, "addComponent", -1, weight, 's');
        }
        for (int weight = 1; weight <= 9; weight++) {
            page.answers(weight - 1, "addComponent", -1, weight, 's').answers(weight, "setWeight", weight - 1, 10 - weight);
            page.answers(10 - weight, "setWeight", weight - 1, weight);
        }
    }

    private static void rules() {
        Page page = new Page("and a rule, 'w' or 's'.", "Throws `IllegalArgumentException` if the weight or the rule is out of range");
        for (int rule : new int[] {0, 1, 'r', 't', 'v', 'x', 'W', 'S', 'w' - 32 * 3, 127, 255, 'w' + 256, 's' + 256, 'w' + 32768, 's' + 65280, 65535}) {
            page.refuses(RANGE, "addComponent", -1, 1, (char) rule);
        }
        page.answers(0, "addComponent", -1, 1, 'w').answers(1, "addComponent", -1, 1, 's');
        for (int group = 0; group < 2; group++) {
            page.does("addComponent", group, 1, 'w').does("addComponent", group, 3, 'w').does("report", 2 * group + 2, 3, 0);
        }
        page.answers('m', "state", 0).answers('d', "state", 1).answers(25, "weightedLoss", 0).answers(25, "weightedLoss", 1);
    }

    private static void parentWithIncidents() {
        Page page = new Page("Throws `UnsupportedOperationException` if the parent has incidents");
        page.does("addComponent", -1, 1, 'w').does("addComponent", 0, 1, 'w').does("addComponent", 0, 1, 'w').does("addComponent", -1, 1, 'w').does("pass", 3);
        page.does("report", 1, 1, 0).refuses(KIND, "addComponent", 1, 1, 'w');
        page.does("resolve", 0, 3).refuses(KIND, "addComponent", 1, 1, 'w');
        page.does("withdraw", 0).refuses(KIND, "addComponent", 1, 9, 's');
        page.does("report", 3, 1, 3).does("resolve", 1, 3).refuses(KIND, "addComponent", 3, 1, 'w');
        page.answers(4, "addComponent", 2, 1, 'w').answers(5, "addComponent", 0, 1, 'w').answers(6, "addComponent", -1, 1, 'w');
        page.does("report", 4, 1, 3).refuses(KIND, "addComponent", 4, 1, 'w').answers(7, "addComponent", 2, 1, 'w');
    }

    /** The last incident that there may be counts as the first one does. */
    private static void parentWithTheLastIncident() {
        Page page = new Page("Throws `UnsupportedOperationException` if the parent has incidents");
        page.does("addComponent", -1, 1, 'w').does("addComponent", -1, 1, 'w').does("addComponent", -1, 1, 'w');
        for (int i = 0; i < 20; i++) {
            page.does("report", i < 19 ? 1 : 2, 1, 0);
        }
        page.refuses(KIND, "addComponent", 1, 1, 'w').refuses(KIND, "addComponent", 2, 1, 'w').answers(3, "addComponent", 0, 1, 'w');
    }

    private static void settingWeights() {
        Page page = new Page("Throws `IllegalArgumentException` if the weight is out of range", "Returns the weight before.");
        page.does("addComponent", -1, 5, 's').does("addComponent", 0, 6, 'w');
        for (int weight : new int[] {LEAST, LEAST + 1, -9, -1, 0, 10, 11, MOST - 1, MOST}) {
            page.refuses(RANGE, "setWeight", 0, weight).refuses(RANGE, "setWeight", 1, weight);
        }
        page.answers(6, "setWeight", 1, 1).answers(1, "setWeight", 1, 9).answers(9, "setWeight", 1, 9).answers(9, "setWeight", 1, 1);
        page.answers(5, "setWeight", 0, 9).answers(9, "setWeight", 0, 1).answers(1, "setWeight", 0, 1);
    }

    private static void weightsForAllMinutes() {
        Page page = new Page("Sets the weight of a component, for all minutes.");
        page.does("addComponent", -1, 1, 's').does("addComponent", 0, 1, 'w').does("addComponent", 0, 3, 'w');
        page.does("addPerson", 1).does("report", 1, 3, 0).does("subscribe", 0, 0).does("pass", 10).does("resolve", 0, 9);
        page.answers('d', "stateAt", 0, 0).answers('d', "stateAt", 0, 8).answers('u', "stateAt", 0, 9).answers(7750, "uptime", 0, 0);
        page.answers(1, "setWeight", 1, 9).answers('m', "stateAt", 0, 0).answers('m', "stateAt", 0, 8).answers('u', "stateAt", 0, 9);
        page.answers(1000, "uptime", 0, 0).answers(1000, "uptimeByMinutes", 0, 0).answers(1, "mails");
        page.answers(9, "setWeight", 1, 3).answers('p', "stateAt", 0, 0).answers(5500, "uptime", 0, 0);
    }

    private static void groupsAndLeaves() {
        Page page = new Page("A component that is the parent of others is a group, any other one is a leaf.");
        page.does("addComponent", -1, 1, 'w').answers(false, "isGroup", 0).does("addComponent", -1, 1, 'w').answers(false, "isGroup", 0);
        page.does("addComponent", 1, 1, 'w').answers(false, "isGroup", 0).answers(true, "isGroup", 1).answers(false, "isGroup", 2);
        page.does("addComponent", 2, 1, 'w').answers(true, "isGroup", 2).answers(false, "isGroup", 3).answers(true, "isGroup", 1);
        for (int c = 0; c < 12; c++) {
            chain("A component that is the parent of others is a group").answers(c < 11, "isGroup", c);
            star("A component that is the parent of others is a group").answers(c == 0, "isGroup", c);
        }
    }

    private static void below() {
        Page chain = chain("A component is below another one if this one is its parent, the parent of its parent, and so on.");
        Page star = star("Returns the number of components that a component is below.");
        for (int c = 0; c < 12; c++) {
            chain.answers(c, "depth", c);
            star.answers(c == 0 ? 0 : 1, "depth", c);
        }
    }

    private static void leaves() {
        Page tree = tree("Returns the number of leaves that are below a component, or 1 for a leaf.");
        int[] due = {3, 2, 1, 1, 1, 1, 1};
        for (int c = 0; c < 7; c++) {
            tree.answers(due[c], "leaves", c);
        }
        Page chain = chain("Returns the number of leaves that are below a component, or 1 for a leaf.");
        Page star = star("Returns the number of leaves that are below a component, or 1 for a leaf.");
        for (int c = 0; c < 12; c++) {
            chain.answers(1, "leaves", c);
            star.answers(c == 0 ? 11 : 1, "leaves", c);
        }
        new Page("or 1 for a leaf").does("addComponent", -1, 1, 'w').answers(1, "leaves", 0).does("addComponent", -1, 1, 'w')
            .answers(1, "leaves", 0).does("addComponent", 0, 1, 'w').answers(1, "leaves", 0).does("addComponent", 0, 1, 'w').answers(2, "leaves", 0);
    }

    private static void belowAt() {
        Page page = tree("`index`: the index, from 0", "first the component itself, then, for each of its children in the order of their numbers, the child and all that are below it.");
        int[][] due = {{0, 1, 3, 5, 2, 4}, {1, 3, 5}, {2, 4}, {3}, {4}, {5}, {6}};
        for (int c = 0; c < 7; c++) {
            for (int i = 0; i < due[c].length; i++) {
                page.answers(due[c][i], "belowAt", c, i);
            }
            for (int index : new int[] {LEAST, LEAST + 1, -2, -1, due[c].length, due[c].length + 1, 11, 12, MOST - 1, MOST}) {
                page.refuses(INDEX, "belowAt", c, index);
            }
        }
    }

    /** A child with a greater number than one that is below its brother, and brothers with groups between them. */
    private static void belowAtMixed() {
        Page page = new Page("for each of its children in the order of their numbers, the child and all that are below it.");
        int[] parents = {-1, -1, 0, 1, 0, 2, 4, 5, 2, 0, 4, 3};
        for (int parent : parents) {
            page.does("addComponent", parent, 1, 'w');
        }
        int[] first = {0, 2, 5, 7, 8, 4, 6, 10, 9};
        for (int i = 0; i < first.length; i++) {
            page.answers(first[i], "belowAt", 0, i);
        }
        page.refuses(INDEX, "belowAt", 0, 9).answers(1, "belowAt", 1, 0).answers(3, "belowAt", 1, 1).answers(11, "belowAt", 1, 2).refuses(INDEX, "belowAt", 1, 3);
        page.answers(8, "belowAt", 2, 3).refuses(INDEX, "belowAt", 2, 4).answers(10, "belowAt", 4, 2).refuses(INDEX, "belowAt", 4, 3);
    }

    private static void pathAt() {
        Page page = tree("`index`: the index, 0 for the component without a parent", "which is the component itself for its depth.");
        int[][] due = {{0}, {0, 1}, {0, 2}, {0, 1, 3}, {0, 2, 4}, {0, 1, 5}, {6}};
        for (int c = 0; c < 7; c++) {
            for (int i = 0; i < due[c].length; i++) {
                page.answers(due[c][i], "pathAt", c, i);
            }
            for (int index : new int[] {LEAST, LEAST + 1, -2, -1, due[c].length, due[c].length + 1, 11, 12, MOST - 1, MOST}) {
                page.refuses(INDEX, "pathAt", c, index);
            }
        }
        for (int c = 0; c < 7; c++) {
            page.answers(c, "pathAt", c, due[c].length - 1);
        }
    }

    private static void longestIndexes() {
        Page chain = chain("Throws `IndexOutOfBoundsException` if there is no such index");
        for (int i = 0; i < 12; i++) {
            chain.answers(i, "belowAt", 0, i).answers(i, "pathAt", 11, i).answers(i, "pathAt", i, i).answers(11, "belowAt", i, 11 - i);
            chain.refuses(INDEX, "belowAt", i, 12 - i).refuses(INDEX, "pathAt", i, i + 1);
        }
        Page star = star("Throws `IndexOutOfBoundsException` if there is no such index");
        for (int i = 0; i < 12; i++) {
            star.answers(i, "belowAt", 0, i).answers(i, "belowAt", i, 0).answers(0, "pathAt", i, 0);
        }
        star.refuses(INDEX, "belowAt", 0, 12).refuses(INDEX, "belowAt", 11, 1).refuses(INDEX, "pathAt", 11, 2).refuses(INDEX, "pathAt", 0, 1);
    }

    private static void noSuchComponent() {
        Page page = tree("Throws `NoSuchElementException` if there is no such component");
        for (int c : new int[] {LEAST, LEAST + 1, -2, -1, 7, 8, 11, 12, 31, 32, MOST - 1, MOST}) {
            page.refuses(MISSING, "setWeight", c, 1).refuses(MISSING, "isGroup", c).refuses(MISSING, "depth", c).refuses(MISSING, "leaves", c);
            page.refuses(MISSING, "belowAt", c, 0).refuses(MISSING, "pathAt", c, 0);
        }
    }

    public static void main(String[] args) {
        atMostTwelve();
        aThirteenth();
        parentAddedBefore();
        noParent();
        weightsOfNewOnes();
        rules();
        parentWithIncidents();
        parentWithTheLastIncident();
        settingWeights();
        weightsForAllMinutes();
        groupsAndLeaves();
        below();
        leaves();
        belowAt();
        belowAtMixed();
        pathAt();
        longestIndexes();
        noSuchComponent();
        end("ComponentsTest");
    }
}
