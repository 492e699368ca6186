import java.util.NoSuchElementException;

/** Promises 1 to 3, 15 and 19 to 23: the tree of components. */
public final class ComponentsTest {
    private static final Class<?> NONE = NoSuchElementException.class;
    private static final Class<?> RANGE = IllegalArgumentException.class;
    private static final Class<?> INDEX = IndexOutOfBoundsException.class;

    /** 0 over 1 and 2, 1 over 3 and 5, 2 over 4, and 6 alone. */
    private static Statusboard tree() {
        Statusboard b = new Statusboard();
        int[] parents = {-1, 0, 0, 1, 2, 1, -1};
        for (int c = 0; c < parents.length; c++) {
            Check.same("addComponent", b.addComponent(parents[c], c + 1, c % 2 == 0 ? 'w' : 's'), c);
        }
        return b;
    }

    private static void newObject() {
        Statusboard b = new Statusboard();
        Check.same("components of a new page", b.components(), 0);
        Check.same("people of a new page", b.people(), 0);
        Check.same("incidents of a new page", b.incidents(), 0);
        Check.same("minute of a new page", b.minute(), 0);
        Check.same("mails of a new page", b.mails(), 0);
        Check.same("open of a new page", b.open(), 0);
        Check.same("cases of a new page", b.cases(), 0);
        Statusboard other = tree();
        Check.same("components beside another page", b.components(), 0);
        Check.same("components of the other page", other.components(), 7);
    }

    private static void adding() {
        Statusboard b = tree();
        Check.same("components", b.components(), 7);
        for (int parent : new int[] {-2, 7, 12, Integer.MIN_VALUE, Integer.MAX_VALUE}) {
            Check.refuses("a parent that is not there", b, NONE, () -> b.addComponent(parent, 1, 'w'));
        }
        Check.refuses("a missing parent ahead of a wrong weight", b, NONE, () -> b.addComponent(7, 0, 'x'));
        for (int weight : new int[] {0, 10, -1, Integer.MIN_VALUE, Integer.MAX_VALUE}) {
            Check.refuses("a weight out of range", b, RANGE, () -> b.addComponent(0, weight, 'w'));
        }
        for (char rule : new char[] {'W', 'S', 'v', 'x', 'r', 't', 0, 255, 'w' + 256}) {
            Check.refuses("a rule out of range", b, RANGE, () -> b.addComponent(-1, 1, rule));
        }
        Check.same("the least weight", b.addComponent(-1, 1, 's'), 7);
        Check.same("the greatest weight", b.addComponent(7, 9, 'w'), 8);
    }

    private static void parentWithIncidents() {
        Statusboard b = tree();
        b.report(3, 1, 0);
        b.withdraw(0);
        Check.refuses("a parent with a withdrawn incident", b, UnsupportedOperationException.class, () -> b.addComponent(3, 1, 'w'));
        Check.refuses("a wrong weight ahead of a parent with incidents", b, RANGE, () -> b.addComponent(3, 10, 'w'));
        Check.refuses("a wrong rule ahead of a parent with incidents", b, RANGE, () -> b.addComponent(3, 1, 'x'));
        Check.same("a parent without incidents", b.addComponent(5, 1, 'w'), 7);
        Check.same("the parent of one with incidents", b.addComponent(1, 1, 'w'), 8);
        for (int c = 9; c < 12; c++) {
            Check.same("up to twelve", b.addComponent(-1, 1, 'w'), c);
        }
        Check.refuses("a thirteenth component", b, IllegalStateException.class, () -> b.addComponent(-1, 1, 'w'));
        Check.refuses("a thirteenth with a parent", b, IllegalStateException.class, () -> b.addComponent(0, 9, 's'));
        Check.refuses("incidents ahead of a full page", b, UnsupportedOperationException.class, () -> b.addComponent(3, 1, 'w'));
        Check.refuses("a wrong weight ahead of a full page", b, RANGE, () -> b.addComponent(-1, 0, 'w'));
        Check.refuses("a missing parent ahead of a full page", b, NONE, () -> b.addComponent(12, 1, 'w'));
    }

    private static void weights() {
        Statusboard b = new Statusboard();
        b.addComponent(-1, 1, 's');
        b.addComponent(0, 1, 'w');
        b.addComponent(0, 3, 'w');
        b.report(1, 3, 0);
        b.pass(10);
        Check.same("loss before", b.weightedLoss(0), 25);
        Check.same("uptime before", b.uptime(0, 0), 7500);
        Check.same("setWeight", b.setWeight(1, 9), 1);
        Check.same("loss behind", b.weightedLoss(0), 75);
        Check.same("the weight counts for past minutes too", b.stateAt(0, 0), 'm');
        Check.same("uptime behind", b.uptime(0, 0), 0);
        Check.same("setWeight again", b.setWeight(1, 2), 9);
        Check.same("no mail", b.mails(), 0);
        for (int weight : new int[] {0, 10, -5, Integer.MAX_VALUE, Integer.MIN_VALUE}) {
            Check.refuses("a weight out of range", b, RANGE, () -> b.setWeight(1, weight));
        }
        for (int c : new int[] {-1, 3, Integer.MAX_VALUE, Integer.MIN_VALUE}) {
            Check.refuses("no such component", b, NONE, () -> b.setWeight(c, 0));
        }
    }

    private static void shape() {
        Statusboard b = tree();
        boolean[] groups = {true, true, true, false, false, false, false};
        int[] depths = {0, 1, 1, 2, 2, 2, 0};
        int[] leaves = {3, 2, 1, 1, 1, 1, 1};
        int[][] below = {{0, 1, 3, 5, 2, 4}, {1, 3, 5}, {2, 4}, {3}, {4}, {5}, {6}};
        int[][] paths = {{0}, {0, 1}, {0, 2}, {0, 1, 3}, {0, 2, 4}, {0, 1, 5}, {6}};
        for (int c = 0; c < 7; c++) {
            int component = c;
            Check.same("isGroup " + c, b.isGroup(c), groups[c]);
            Check.same("depth " + c, b.depth(c), depths[c]);
            Check.same("leaves " + c, b.leaves(c), leaves[c]);
            for (int i = 0; i < below[c].length; i++) {
                Check.same("belowAt " + c + " " + i, b.belowAt(c, i), below[c][i]);
            }
            for (int i = 0; i < paths[c].length; i++) {
                Check.same("pathAt " + c + " " + i, b.pathAt(c, i), paths[c][i]);
            }
            for (int index : new int[] {-1, below[c].length, Integer.MAX_VALUE, Integer.MIN_VALUE}) {
                Check.refuses("belowAt behind its end", b, INDEX, () -> b.belowAt(component, index));
            }
            for (int index : new int[] {-1, paths[c].length, Integer.MAX_VALUE, Integer.MIN_VALUE}) {
                Check.refuses("pathAt behind its end", b, INDEX, () -> b.pathAt(component, index));
            }
        }
        for (int c : new int[] {-1, 7, 12, Integer.MAX_VALUE, Integer.MIN_VALUE}) {
            Check.refuses("isGroup", b, NONE, () -> b.isGroup(c));
            Check.refuses("depth", b, NONE, () -> b.depth(c));
            Check.refuses("leaves", b, NONE, () -> b.leaves(c));
            Check.refuses("belowAt", b, NONE, () -> b.belowAt(c, -1));
            Check.refuses("pathAt", b, NONE, () -> b.pathAt(c, -1));
        }
    }

    private static void chain() {
        Statusboard b = new Statusboard();
        for (int c = 0; c < 12; c++) {
            b.addComponent(c - 1, 1, 'w');
        }
        for (int i = 0; i < 12; i++) {
            Check.same("a chain's belowAt", b.belowAt(0, i), i);
            Check.same("a chain's pathAt", b.pathAt(11, i), i);
            Check.same("a chain's depth", b.depth(i), i);
            Check.same("a chain's leaves", b.leaves(i), 1);
            Check.same("a chain's groups", b.isGroup(i), i < 11);
        }
    }

    public static void main(String[] args) {
        newObject();
        adding();
        parentWithIncidents();
        weights();
        shape();
        chain();
        Check.end("ComponentsTest");
    }
}
