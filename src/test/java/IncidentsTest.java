import java.util.NoSuchElementException;

/** Promises 7 to 11, 17 and 32 to 39: incidents and cases. */
public final class IncidentsTest {
    private static final Class<?> NONE = NoSuchElementException.class;
    private static final Class<?> RANGE = IllegalArgumentException.class;
    private static final Class<?> STATE = IllegalStateException.class;
    private static final int[] WRONG = {-1, 20, Integer.MAX_VALUE, Integer.MIN_VALUE};

    /** The group 0 over the leaves 1 and 2, in the minute 10. */
    private static Statusboard page() {
        Statusboard b = new Statusboard();
        b.addComponent(-1, 1, 'w');
        b.addComponent(0, 2, 'w');
        b.addComponent(0, 3, 'w');
        b.pass(10);
        return b;
    }

    private static void reporting() {
        Statusboard b = page();
        Check.same("report", b.report(1, 2, 4), 0);
        Check.same("incidents", b.incidents(), 1);
        Check.same("level", b.levelOf(0), 2);
        Check.same("start", b.startOf(0), 4);
        Check.same("end of an open one", b.endOf(0), -1);
        Check.same("case", b.caseOf(0), 0);
        Check.same("a start of 0", b.report(2, 1, 0), 1);
        Check.same("a start now", b.report(2, 3, 10), 2);
        for (int c : new int[] {-1, 3, Integer.MAX_VALUE, Integer.MIN_VALUE}) {
            Check.refuses("report for nothing", b, NONE, () -> b.report(c, 0, -1));
        }
        for (int level : new int[] {0, 4, -1, Integer.MAX_VALUE, Integer.MIN_VALUE}) {
            Check.refuses("a level out of range", b, RANGE, () -> b.report(1, level, 0));
        }
        for (int start : new int[] {-1, 11, Integer.MAX_VALUE, Integer.MIN_VALUE}) {
            Check.refuses("a start out of range", b, RANGE, () -> b.report(1, 1, start));
        }
        Check.refuses("report for a group", b, UnsupportedOperationException.class, () -> b.report(0, 1, 0));
        Check.refuses("a range ahead of a group", b, RANGE, () -> b.report(0, 1, 11));
        Check.refuses("a level ahead of a group", b, RANGE, () -> b.report(0, 4, 0));
        for (int i = 3; i < 20; i++) {
            Check.same("up to twenty", b.report(1, 1, 10), i);
        }
        Check.same("open", b.open(), 20);
        Check.same("cases", b.cases(), 20);
        Check.refuses("a twenty-first incident", b, STATE, () -> b.report(1, 1, 10));
        Check.refuses("a group ahead of too many", b, UnsupportedOperationException.class, () -> b.report(0, 1, 10));
        Check.refuses("a range ahead of too many", b, RANGE, () -> b.report(1, 1, 11));
        b.withdraw(7);
        Check.refuses("a withdrawn one still counts", b, STATE, () -> b.report(1, 1, 10));
    }

    private static void resolving() {
        Statusboard b = page();
        b.report(1, 2, 4);
        Check.refuses("an end ahead of the start", b, RANGE, () -> b.resolve(0, 3));
        Check.refuses("an end behind now", b, RANGE, () -> b.resolve(0, 11));
        Check.refuses("an end far ahead", b, RANGE, () -> b.resolve(0, Integer.MIN_VALUE));
        Check.refuses("an end far behind", b, RANGE, () -> b.resolve(0, Integer.MAX_VALUE));
        Check.same("resolve", b.resolve(0, 9), 5);
        Check.same("end", b.endOf(0), 9);
        Check.same("covered last", b.stateAt(1, 8), 'p');
        Check.same("not covered", b.stateAt(1, 9), 'u');
        Check.refuses("resolving twice", b, STATE, () -> b.resolve(0, 9));
        Check.refuses("resolved ahead of a range", b, STATE, () -> b.resolve(0, 11));
        b.report(1, 1, 10);
        Check.same("no minutes", b.resolve(1, 10), 0);
        b.report(1, 1, 10);
        b.withdraw(2);
        Check.refuses("resolving a withdrawn one", b, STATE, () -> b.resolve(2, 10));
        b.report(2, 3, 0);
        Check.same("till now", b.resolve(3, 10), 10);
        Check.same("the end is not covered", b.state(2), 'u');
        for (int i : WRONG) {
            Check.refuses("resolving nothing", b, NONE, () -> b.resolve(i, -1));
        }
        Check.refuses("resolving the next one", b, NONE, () -> b.resolve(4, 0));
    }

    private static void correcting() {
        Statusboard b = page();
        b.report(1, 2, 4);
        Check.same("correct an open one", b.correct(0, 3, 10), 2);
        Check.same("its level", b.levelOf(0), 3);
        Check.same("its start", b.startOf(0), 10);
        Check.same("the minutes ahead", b.stateAt(1, 9), 'u');
        Check.refuses("an open one behind now", b, RANGE, () -> b.correct(0, 1, 11));
        Check.refuses("a start ahead of 0", b, RANGE, () -> b.correct(0, 1, -1));
        for (int level : new int[] {0, 4, Integer.MAX_VALUE, Integer.MIN_VALUE}) {
            Check.refuses("a level out of range", b, RANGE, () -> b.correct(0, level, 0));
        }
        Check.same("correct to 0", b.correct(0, 1, 0), 3);
        b.resolve(0, 6);
        Check.refuses("a resolved one behind its end", b, RANGE, () -> b.correct(0, 1, 7));
        Check.same("a resolved one at its end", b.correct(0, 2, 6), 1);
        Check.same("it stays resolved", b.endOf(0), 6);
        Check.same("no minutes", b.stateAt(1, 6), 'u');
        Check.same("minutes again", b.correct(0, 3, 2), 2);
        Check.same("the first one", b.stateAt(1, 2), 'm');
        Check.same("the last one", b.stateAt(1, 5), 'm');
        Check.same("the one behind", b.stateAt(1, 6), 'u');
        b.report(2, 1, 8);
        b.withdraw(1);
        Check.refuses("a withdrawn one behind its end", b, RANGE, () -> b.correct(1, 1, 9));
        Check.same("a withdrawn one", b.correct(1, 2, 5), 1);
        Check.same("covers minutes again", b.stateAt(2, 7), 'p');
        Check.same("up to its end", b.stateAt(2, 8), 'u');
        Check.same("is not open", b.open(), 0);
        for (int i : WRONG) {
            Check.refuses("correcting nothing", b, NONE, () -> b.correct(i, 0, -1));
        }
        Check.refuses("correcting the next one", b, NONE, () -> b.correct(2, 1, 0));
    }

    private static void withdrawing() {
        Statusboard b = page();
        b.report(1, 1, 4);
        b.report(1, 2, 10);
        b.report(2, 3, 0);
        b.resolve(2, 7);
        Check.same("withdraw an open one", b.withdraw(1), 1);
        Check.same("its end", b.endOf(1), 10);
        Check.same("withdraw a resolved one", b.withdraw(2), 1);
        Check.same("its end", b.endOf(2), 0);
        Check.same("its minutes", b.stateAt(2, 3), 'u');
        Check.refuses("withdrawing twice", b, STATE, () -> b.withdraw(1));
        Check.refuses("withdrawing a resolved one twice", b, STATE, () -> b.withdraw(2));
        Check.same("withdraw the last one", b.withdraw(0), 0);
        b.report(1, 1, 10);
        b.resolve(3, 10);
        Check.refuses("withdrawing one that covers no minutes", b, STATE, () -> b.withdraw(3));
        b.correct(3, 1, 9);
        Check.same("withdrawing it behind a correction", b.withdraw(3), 0);
        Check.same("its end is its new start", b.endOf(3), 9);
        for (int i : WRONG) {
            Check.refuses("withdrawing nothing", b, NONE, () -> b.withdraw(i));
        }
        Check.refuses("withdrawing the next one", b, NONE, () -> b.withdraw(4));
    }

    private static void joining() {
        Statusboard b = page();
        for (int i = 0; i < 6; i++) {
            b.report(1, 1, i);
        }
        Check.same("join", b.join(5, 3), 2);
        Check.same("the lowest number", b.caseOf(5), 3);
        Check.same("cases", b.cases(), 5);
        Check.same("join two others", b.join(2, 4), 2);
        Check.same("join both cases", b.join(4, 5), 4);
        for (int i = 2; i < 6; i++) {
            Check.same("one case", b.caseOf(i), 2);
        }
        Check.same("cases", b.cases(), 3);
        Check.refuses("the same case", b, STATE, () -> b.join(5, 2));
        Check.refuses("the same incident", b, STATE, () -> b.join(0, 0));
        for (int i : WRONG) {
            Check.refuses("no other", b, NONE, () -> b.join(0, i));
            Check.refuses("no one", b, NONE, () -> b.join(i, 0));
            Check.refuses("neither", b, NONE, () -> b.join(i, i));
        }
        Check.same("join to 0", b.join(5, 0), 5);
        Check.same("case of all", b.caseOf(4), 0);
        Check.same("case of the other one", b.caseOf(1), 1);
        Check.same("cases", b.cases(), 2);
        Check.same("all", b.join(1, 3), 6);
        Check.same("cases", b.cases(), 1);
    }

    private static void caseMinutes() {
        Statusboard b = page();
        b.report(1, 1, 2);
        b.report(2, 1, 4);
        b.report(1, 3, 9);
        b.report(1, 3, 0);
        b.resolve(0, 5);
        b.resolve(1, 7);
        b.resolve(3, 1);
        Check.same("one incident", b.caseMinutes(0), 3);
        Check.same("another one", b.caseMinutes(1), 3);
        Check.same("an open one", b.caseMinutes(2), 1);
        b.join(0, 1);
        Check.same("overlapping minutes count once", b.caseMinutes(1), 5);
        b.join(2, 1);
        Check.same("three incidents", b.caseMinutes(0), 6);
        Check.same("another case", b.caseMinutes(3), 1);
        b.pass(5);
        Check.same("only past minutes", b.caseMinutes(2), 11);
        b.join(3, 0);
        Check.same("all of them", b.caseMinutes(3), 12);
        b.report(2, 1, 15);
        Check.same("the present minute is not past", b.caseMinutes(4), 0);
        b.withdraw(1);
        Check.same("a withdrawn one has none", b.caseMinutes(1), 10);
        for (int i : WRONG) {
            Check.refuses("minutes of nothing", b, NONE, () -> b.caseMinutes(i));
        }
        Check.refuses("minutes of the next one", b, NONE, () -> b.caseMinutes(5));
    }

    private static void next() {
        Statusboard b = page();
        Check.refuses("none is open", b, NONE, () -> b.nextIncident());
        b.report(1, 1, 0);
        b.report(2, 2, 5);
        b.report(1, 2, 5);
        b.report(1, 2, 7);
        Check.same("the lowest number", b.nextIncident(), 1);
        b.correct(3, 2, 4);
        Check.same("the earliest start", b.nextIncident(), 3);
        b.correct(0, 3, 10);
        Check.same("the greatest level", b.nextIncident(), 0);
        b.resolve(0, 10);
        Check.same("an open one", b.nextIncident(), 3);
        Check.same("open", b.open(), 3);
        b.withdraw(3);
        b.withdraw(1);
        Check.same("the open one", b.nextIncident(), 2);
        Check.same("open", b.open(), 1);
        b.resolve(2, 5);
        Check.same("open", b.open(), 0);
        Check.same("incidents", b.incidents(), 4);
        Check.refuses("none is open any more", b, NONE, () -> b.nextIncident());
    }

    private static void asking() {
        Statusboard b = page();
        b.report(1, 3, 10);
        for (int i : new int[] {-1, 1, 20, Integer.MAX_VALUE, Integer.MIN_VALUE}) {
            Check.refuses("levelOf", b, NONE, () -> b.levelOf(i));
            Check.refuses("startOf", b, NONE, () -> b.startOf(i));
            Check.refuses("endOf", b, NONE, () -> b.endOf(i));
            Check.refuses("caseOf", b, NONE, () -> b.caseOf(i));
        }
    }

    public static void main(String[] args) {
        reporting();
        resolving();
        correcting();
        withdrawing();
        joining();
        caseMinutes();
        next();
        asking();
        Check.end("IncidentsTest");
    }
}
