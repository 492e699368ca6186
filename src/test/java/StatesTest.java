import java.util.NoSuchElementException;

/** Promises 24, 25, 27 and 31: states, their rules, and the worst leaf. */
public final class StatesTest {
    private static final Class<?> NONE = NoSuchElementException.class;
    private static final Class<?> RANGE = IllegalArgumentException.class;

    private static void leaf() {
        Statusboard b = new Statusboard();
        b.addComponent(-1, 1, 's');
        Check.same("without incidents", b.state(0), 'u');
        b.pass(20);
        b.report(0, 1, 5);
        Check.same("degraded", b.state(0), 'd');
        b.report(0, 3, 8);
        Check.same("the greatest level", b.state(0), 'm');
        b.report(0, 2, 7);
        Check.same("still the greatest level", b.state(0), 'm');
        b.resolve(1, 10);
        Check.same("the greatest that is left", b.state(0), 'p');
        char[] due = {'u', 'd', 'd', 'p', 'm', 'm', 'p'};
        for (int i = 0; i < due.length; i++) {
            Check.same("the minute " + (i + 4), b.stateAt(0, i + 4), due[i]);
        }
        Check.same("the minute 0", b.stateAt(0, 0), 'u');
        Check.same("now", b.stateAt(0, 20), 'p');
        for (int minute : new int[] {-1, 21, Integer.MAX_VALUE, Integer.MIN_VALUE}) {
            Check.refuses("a minute out of range", b, RANGE, () -> b.stateAt(0, minute));
        }
        for (int c : new int[] {-1, 1, Integer.MAX_VALUE, Integer.MIN_VALUE}) {
            Check.refuses("the state of nothing", b, NONE, () -> b.state(c));
            Check.refuses("the past state of nothing", b, NONE, () -> b.stateAt(c, -1));
            Check.refuses("the loss of nothing", b, NONE, () -> b.weightedLoss(c));
        }
        Check.refuses("the loss of a leaf", b, UnsupportedOperationException.class, () -> b.weightedLoss(0));
    }

    private static void greatest() {
        Statusboard b = new Statusboard();
        b.addComponent(-1, 1, 'w');
        b.addComponent(0, 1, 'w');
        b.addComponent(1, 9, 'w');
        b.addComponent(0, 1, 'w');
        b.report(3, 1, 0);
        Check.same("one child", b.state(0), 'd');
        b.report(2, 2, 0);
        Check.same("a child of a child", b.state(1), 'p');
        Check.same("passed up", b.state(0), 'p');
        b.report(3, 3, 0);
        Check.same("the greater one", b.state(0), 'm');
        Check.same("the other one", b.state(1), 'p');
        Check.same("the loss of the rule w", b.weightedLoss(0), 75);
    }

    /** A group of the rule s over two leaves with these weights and levels. */
    private static void shares(int weightOne, int levelOne, int weightTwo, int levelTwo, int loss, char state) {
        Statusboard b = new Statusboard();
        b.addComponent(-1, 5, 's');
        b.addComponent(0, weightOne, 'w');
        b.addComponent(0, weightTwo, 'w');
        if (levelOne > 0) {
            b.report(1, levelOne, 0);
        }
        if (levelTwo > 0) {
            b.report(2, levelTwo, 0);
        }
        String what = weightOne + "x" + levelOne + " " + weightTwo + "x" + levelTwo;
        Check.same("the loss of " + what, b.weightedLoss(0), loss);
        Check.same("the state of " + what, b.state(0), state);
        Check.same("the state in the minute 0 of " + what, b.stateAt(0, 0), state);
    }

    private static void meanLosses() {
        shares(1, 0, 1, 0, 0, 'u');
        shares(1, 1, 9, 0, 2, 'd');
        shares(9, 1, 9, 1, 25, 'd');
        shares(1, 3, 2, 0, 33, 'd');
        shares(1, 3, 9, 1, 32, 'd');
        shares(2, 1, 1, 2, 33, 'd');
        shares(5, 1, 3, 2, 34, 'p');
        shares(1, 2, 1, 1, 37, 'p');
        shares(2, 2, 1, 3, 66, 'p');
        shares(1, 0, 2, 3, 66, 'p');
        shares(9, 1, 8, 3, 60, 'p');
        shares(5, 3, 9, 2, 67, 'm');
        shares(5, 3, 7, 2, 70, 'm');
        shares(3, 0, 7, 3, 70, 'm');
        shares(3, 2, 9, 3, 87, 'm');
        shares(4, 3, 4, 3, 100, 'm');
    }

    private static void roundedToUp() {
        Statusboard b = new Statusboard();
        b.addComponent(-1, 1, 's');
        b.addComponent(0, 1, 'w');
        for (int i = 0; i < 3; i++) {
            b.addComponent(0, 9, 'w');
        }
        b.report(1, 1, 0);
        Check.same("25 / 28", b.weightedLoss(0), 0);
        Check.same("up", b.state(0), 'u');
        b.correct(0, 2, 0);
        Check.same("50 / 28", b.weightedLoss(0), 1);
        Check.same("degraded", b.state(0), 'd');
    }

    private static void lossOfState() {
        Statusboard b = new Statusboard();
        b.addComponent(-1, 1, 's');
        b.addComponent(0, 1, 's');
        b.addComponent(1, 1, 'w');
        b.addComponent(1, 1, 'w');
        b.addComponent(1, 1, 'w');
        b.report(2, 3, 0);
        Check.same("the loss of the inner group", b.weightedLoss(1), 33);
        Check.same("its state", b.state(1), 'd');
        Check.same("passed up is the loss of its state", b.weightedLoss(0), 25);
        Check.same("the outer state", b.state(0), 'd');
    }

    private static void worst() {
        Statusboard b = new Statusboard();
        Check.refuses("no leaf", b, NONE, () -> b.worst());
        b.addComponent(-1, 9, 'w');
        b.addComponent(0, 4, 'w');
        b.addComponent(0, 2, 'w');
        b.addComponent(0, 1, 'w');
        Check.refuses("all are up", b, NONE, () -> b.worst());
        b.pass(5);
        b.report(3, 1, 5);
        Check.same("a leaf, not its group", b.worst(), 3);
        b.report(2, 2, 5);
        Check.same("the greater product", b.worst(), 2);
        b.report(1, 1, 5);
        Check.same("the lowest number", b.worst(), 1);
        b.correct(0, 3, 5);
        Check.same("three alike", b.worst(), 1);
        b.setWeight(3, 2);
        Check.same("a greater weight", b.worst(), 3);
        b.resolve(0, 5);
        Check.same("only present minutes count", b.worst(), 1);
        b.withdraw(1);
        b.withdraw(2);
        Check.refuses("all are up again", b, NONE, () -> b.worst());
    }

    private static void presentMinute() {
        Statusboard b = new Statusboard();
        b.addComponent(-1, 1, 'w');
        b.addComponent(-1, 1, 's');
        b.addComponent(1, 9, 'w');
        b.pass(8);
        b.report(0, 1, 5);
        b.report(2, 3, 4);
        b.resolve(1, 8);
        Check.same("the past state", b.stateAt(2, 4), 'm');
        Check.same("the worst of now, with the number 0", b.worst(), 0);
        Check.same("the past state", b.stateAt(1, 7), 'm');
        Check.same("the loss of now", b.weightedLoss(1), 0);
        Check.same("the past state", b.stateAt(1, 7), 'm');
        Check.same("the state of now", b.state(1), 'u');
    }

    public static void main(String[] args) {
        leaf();
        greatest();
        meanLosses();
        roundedToUp();
        lossOfState();
        worst();
        presentMinute();
        Check.end("StatesTest");
    }
}
