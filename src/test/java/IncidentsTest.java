/** "Incidents", and promises 7 to 10 and 32 to 36: what is reported, resolved, corrected and withdrawn. */
public final class IncidentsTest extends Check {
    private static final int[] FAR = {LEAST, LEAST + 1, MOST - 1, MOST};

    /** 0 over 1 and 2, in the minute 10. */
    private static Page page(String... words) {
        Page page = new Page(words);
        page.does("addComponent", -1, 1, 'w').does("addComponent", 0, 2, 'w').does("addComponent", 0, 3, 'w');
        return page.does("pass", 10);
    }

    private static void atMostTwenty() {
        Page page = page("At most 20 incidents have numbers from 0.");
        for (int i = 0; i < 20; i++) {
            page.answers(i, "incidents").refuses(MISSING, "levelOf", i).answers(i, "report", 1 + i % 2, 1 + i % 3, i % 11).answers(1 + i % 3, "levelOf", i);
            page.answers(i + 1, "open").answers(i + 1, "cases");
        }
        page.answers(20, "incidents").refuses(STATE, "report", 1, 1, 0).refuses(STATE, "report", 2, 3, 10).refuses(MISSING, "levelOf", 20);
        page.answers(20, "incidents");
    }

    /** "whatever has a number counts" */
    private static void endedOnesCount() {
        Page page = page("Throws `IllegalStateException` if there are 20 incidents");
        for (int i = 0; i < 20; i++) {
            page.does("report", 1, 1, 4);
        }
        page.does("withdraw", 0).refuses(STATE, "report", 1, 1, 0).does("withdraw", 19).refuses(STATE, "report", 1, 1, 0);
        page.does("resolve", 18, 4).refuses(STATE, "report", 1, 1, 0).does("resolve", 17, 10).refuses(STATE, "report", 1, 1, 0);
        page.does("join", 3, 4).refuses(STATE, "report", 2, 1, 0);
        for (int i = 1; i < 17; i++) {
            page.does("withdraw", i);
        }
        page.answers(0, "open").refuses(STATE, "report", 1, 1, 10).answers(20, "incidents");
    }

    private static void levels() {
        Page page = page("`level`: the level, 1 to 3", "Throws `IllegalArgumentException` if the level or the start is out of range", "Returns the level before.");
        for (int level : new int[] {LEAST, LEAST + 1, -3, -1, 0, 4, 5, MOST - 1, MOST}) {
            page.refuses(RANGE, "report", 1, level, 0).refuses(RANGE, "report", 2, level, 10);
        }
        page.answers(0, "report", 1, 1, 0).answers(1, "report", 1, 2, 0).answers(2, "report", 1, 3, 0);
        page.answers(1, "levelOf", 0).answers(2, "levelOf", 1).answers(3, "levelOf", 2);
        for (int level : new int[] {LEAST, LEAST + 1, -3, -1, 0, 4, 5, MOST - 1, MOST}) {
            page.refuses(RANGE, "correct", 0, level, 0).refuses(RANGE, "correct", 2, level, 10);
        }
        page.answers(1, "correct", 0, 3, 0).answers(3, "correct", 0, 1, 0).answers(3, "correct", 2, 1, 0).answers(1, "levelOf", 2);
    }

    private static void whatAnIncidentHas() {
        Page page = page("An incident belongs to a leaf and has a level from 1 to 3, a start, and an end if it is resolved.");
        page.refuses(KIND, "report", 0, 1, 0).answers(0, "report", 1, 2, 7).answers(1, "report", 2, 1, 10).answers('p', "stateAt", 1, 7).answers('u', "stateAt", 2, 7);
        page.answers(2, "levelOf", 0).answers(7, "startOf", 0).answers(-1, "endOf", 0).answers(1, "levelOf", 1).answers(10, "startOf", 1).answers(-1, "endOf", 1);
        page.does("resolve", 0, 9).answers(2, "levelOf", 0).answers(7, "startOf", 0).answers(9, "endOf", 0).answers(-1, "endOf", 1);
    }

    private static void startOfAReport() {
        Page page = page("`start`: the start, 0 to the present minute", "Throws `IllegalArgumentException` if the level or the start is out of range");
        page.refuses(RANGE, "report", 1, 1, -1).refuses(RANGE, "report", 1, 1, 11).refuses(RANGE, "report", 1, 1, 9999);
        page.answers(0, "report", 1, 1, 0).answers(1, "report", 1, 1, 10).answers(0, "startOf", 0).answers(10, "startOf", 1);
        for (int start : FAR) {
            page.refuses(RANGE, "report", 1, 1, start);
        }
        page.does("pass", 1).refuses(RANGE, "report", 1, 1, 12).answers(2, "report", 1, 1, 11).answers(11, "startOf", 2);
    }

    private static void startInTheMinuteZero() {
        Page page = new Page("`start`: the start, 0 to the present minute").does("addComponent", -1, 1, 'w');
        page.refuses(RANGE, "report", 0, 1, 1).refuses(RANGE, "report", 0, 1, -1).answers(0, "report", 0, 1, 0).answers('d', "state", 0);
    }

    private static void groups() {
        Page page = page("Throws `UnsupportedOperationException` if the component is a group");
        page.refuses(KIND, "report", 0, 1, 0).refuses(KIND, "report", 0, 3, 10).answers(0, "report", 1, 1, 0);
        page.does("addComponent", 2, 1, 'w').refuses(KIND, "report", 2, 1, 0).answers(1, "report", 3, 1, 0);
    }

    private static void isOpen() {
        Page page = page("Reports an incident, which is open.");
        page.answers(0, "open").answers(0, "report", 1, 2, 10).answers(1, "open").answers(-1, "endOf", 0).answers(10, "startOf", 0).answers(0, "caseOf", 0);
        page.answers(1, "report", 2, 3, 0).answers(2, "open").answers(-1, "endOf", 1).answers(0, "startOf", 1).answers(1, "caseOf", 1);
    }

    private static void coversItsMinutes() {
        Page page = page("It covers the minutes from its start on up to the one ahead of its end, or all minutes from its start on if it is open.");
        page.does("report", 1, 2, 4).answers('u', "stateAt", 1, 3).answers('p', "stateAt", 1, 4).answers('p', "stateAt", 1, 5).answers('p', "state", 1);
        page.does("pass", 5).answers('p', "stateAt", 1, 14).answers('p', "state", 1);
        page.does("resolve", 0, 12).answers('u', "stateAt", 1, 3).answers('p', "stateAt", 1, 4).answers('p', "stateAt", 1, 11).answers('u', "stateAt", 1, 12);
        page.does("report", 2, 1, 0).does("resolve", 1, 1).answers('d', "stateAt", 2, 0).answers('u', "stateAt", 2, 1);
        page.does("report", 2, 1, 15).answers('u', "stateAt", 2, 14).answers('d', "state", 2).does("resolve", 2, 15).answers('u', "state", 2);
    }

    private static void endOfOne() {
        Page page = page("`end`: its end, from its start to the present minute", "Throws `IllegalArgumentException` if the end is out of range");
        page.does("report", 1, 2, 4);
        for (int end : new int[] {LEAST, LEAST + 1, -1, 0, 3, 11, 12, 9999, MOST - 1, MOST}) {
            page.refuses(RANGE, "resolve", 0, end);
        }
        page.copy().answers(0, "resolve", 0, 4).answers(4, "endOf", 0).answers('u', "stateAt", 1, 4).answers('u', "state", 1);
        page.copy().answers(1, "resolve", 0, 5).answers(5, "endOf", 0).answers('p', "stateAt", 1, 4).answers('u', "stateAt", 1, 5);
        page.copy().answers(5, "resolve", 0, 9).answers(9, "endOf", 0);
        page.copy().answers(6, "resolve", 0, 10).answers(10, "endOf", 0).answers('p', "stateAt", 1, 9).answers('u', "state", 1).answers(0, "open");
        page.does("correct", 0, 1, 10).refuses(RANGE, "resolve", 0, 9).answers(0, "resolve", 0, 10);
    }

    private static void endAtTheEdgesOfTime() {
        Page page = new Page("Returns the number of minutes that it covers.").does("addComponent", -1, 1, 'w');
        page.does("report", 0, 1, 0).refuses(RANGE, "resolve", 0, -1).refuses(RANGE, "resolve", 0, 1).answers(0, "resolve", 0, 0).does("report", 0, 1, 0);
        for (int i = 0; i < 16; i++) {
            page.does("pass", 600);
        }
        page.does("pass", 399).refuses(RANGE, "resolve", 1, 10000).answers(9999, "resolve", 1, 9999).answers(9999, "caseMinutes", 1);
    }

    private static void resolvedOnes() {
        Page page = page("Throws `IllegalStateException` if it is resolved");
        page.does("report", 1, 2, 4).does("resolve", 0, 9).refuses(STATE, "resolve", 0, 9).refuses(STATE, "resolve", 0, 4).refuses(STATE, "resolve", 0, 10);
        page.does("report", 1, 2, 4).does("resolve", 1, 4).refuses(STATE, "resolve", 1, 4).refuses(STATE, "resolve", 1, 10);
        page.does("report", 1, 2, 4).does("withdraw", 2).refuses(STATE, "resolve", 2, 4).refuses(STATE, "resolve", 2, 10);
        page.does("correct", 2, 1, 0).refuses(STATE, "resolve", 2, 4).refuses(STATE, "resolve", 2, 10);
        // an end of 0 is an end
        page.does("report", 1, 2, 0).does("resolve", 3, 0).refuses(STATE, "resolve", 3, 0).answers(0, "endOf", 3).answers(0, "open");
    }

    private static void startOfAnOpenOne() {
        Page page = page("`start`: the start, 0 to its end if it is resolved, otherwise to the present minute", "Throws `IllegalArgumentException` if the level or the start is out of range");
        page.does("report", 1, 2, 4);
        page.refuses(RANGE, "correct", 0, 1, -1).refuses(RANGE, "correct", 0, 1, 11).refuses(RANGE, "correct", 0, 2, 9999);
        for (int start : FAR) {
            page.refuses(RANGE, "correct", 0, 1, start);
        }
        page.answers(2, "correct", 0, 1, 0).answers(0, "startOf", 0).answers('d', "stateAt", 1, 0).answers(-1, "endOf", 0);
        page.answers(1, "correct", 0, 3, 10).answers(10, "startOf", 0).answers('u', "stateAt", 1, 9).answers('m', "state", 1).answers(-1, "endOf", 0);
        page.answers(3, "correct", 0, 3, 10).does("pass", 1).answers(3, "correct", 0, 2, 11).refuses(RANGE, "correct", 0, 2, 12);
    }

    private static void startOfAResolvedOne() {
        Page page = page("`start`: the start, 0 to its end if it is resolved, otherwise to the present minute", "Throws `IllegalArgumentException` if the level or the start is out of range");
        page.does("report", 1, 2, 4).does("resolve", 0, 6).refuses(RANGE, "correct", 0, 1, -1).refuses(RANGE, "correct", 0, 1, 7).refuses(RANGE, "correct", 0, 1, 10);
        for (int start : FAR) {
            page.refuses(RANGE, "correct", 0, 1, start);
        }
        page.answers(2, "correct", 0, 1, 0).answers('d', "stateAt", 1, 0).answers('d', "stateAt", 1, 5).answers('u', "stateAt", 1, 6).answers(6, "endOf", 0);
        page.answers(1, "correct", 0, 3, 6).answers(6, "startOf", 0).answers(6, "endOf", 0).answers('u', "stateAt", 1, 6).answers('u', "stateAt", 1, 5);
        page.answers(3, "correct", 0, 3, 5).answers('m', "stateAt", 1, 5).answers('u', "stateAt", 1, 4).answers('u', "stateAt", 1, 6).answers(0, "open");
        page.does("report", 2, 1, 0).does("resolve", 1, 0).refuses(RANGE, "correct", 1, 1, 1).answers(1, "correct", 1, 2, 0).answers(0, "startOf", 1);
    }

    private static void coversMinutesAgain() {
        Page page = page("one that covered no minutes, also one that was withdrawn, covers minutes again if its start is less than its end then.");
        page.does("report", 1, 2, 4).does("withdraw", 0).does("report", 2, 3, 7).does("resolve", 1, 7);
        page.does("correct", 0, 3, 4).answers('u', "stateAt", 1, 4).answers('u', "stateAt", 1, 3).answers(0, "caseMinutes", 0).refuses(STATE, "withdraw", 0);
        page.does("correct", 0, 3, 3).answers('m', "stateAt", 1, 3).answers('u', "stateAt", 1, 4).answers('u', "stateAt", 1, 2).answers(1, "caseMinutes", 0);
        page.does("correct", 1, 1, 7).answers('u', "stateAt", 2, 7).answers('u', "stateAt", 2, 6);
        page.does("correct", 1, 1, 0).answers('d', "stateAt", 2, 6).answers('u', "stateAt", 2, 7).answers('d', "stateAt", 2, 0).answers(7, "caseMinutes", 1);
        page.answers(0, "open").answers(0, "withdraw", 0).answers('u', "stateAt", 1, 3).answers(3, "endOf", 0);
    }

    private static void withdrawing() {
        Page page = page("it is resolved with its start as its end, and so covers no minutes, unless it is corrected.");
        page.does("report", 1, 1, 4).does("report", 1, 2, 10).does("report", 2, 3, 0).does("resolve", 2, 7).does("report", 2, 1, 0);
        page.answers(2, "withdraw", 1).answers(10, "endOf", 1).answers(10, "startOf", 1).answers('d', "state", 1).answers(2, "levelOf", 1);
        page.answers('m', "stateAt", 2, 6).answers(2, "withdraw", 2).answers(0, "endOf", 2).answers(0, "startOf", 2).answers('d', "stateAt", 2, 6);
        page.answers(1, "withdraw", 0).answers(4, "endOf", 0).answers('u', "stateAt", 1, 4).answers('u', "state", 1);
        page.answers(0, "withdraw", 3).answers(0, "endOf", 3).answers('u', "stateAt", 2, 0).answers('u', "state", 2).answers(4, "incidents").answers(4, "cases");
    }

    private static void openOnesAfterTheCall() {
        Page page = page("Returns the number of open incidents after the call.");
        for (int i = 0; i < 20; i++) {
            page.does("report", 1, 1, i % 11);
        }
        for (int i = 19; i >= 0; i--) {
            page.answers(i, "withdraw", i).answers(i, "open");
        }
    }

    private static void coversNoMinutes() {
        Page page = page("Throws `IllegalStateException` if it covers no minutes");
        page.does("report", 1, 1, 4).does("withdraw", 0).refuses(STATE, "withdraw", 0);
        page.does("report", 1, 1, 4).does("resolve", 1, 4).refuses(STATE, "withdraw", 1);
        page.does("report", 1, 1, 4).does("resolve", 2, 6).does("correct", 2, 1, 6).refuses(STATE, "withdraw", 2);
        page.does("correct", 2, 1, 5).answers(0, "withdraw", 2).answers(5, "endOf", 2).refuses(STATE, "withdraw", 2);
        page.does("report", 1, 1, 9).does("resolve", 3, 10).answers(0, "withdraw", 3).refuses(STATE, "withdraw", 3);
        // open in the present minute, which it covers
        page.does("report", 1, 1, 10).answers(0, "withdraw", 4).refuses(STATE, "withdraw", 4);
        page.does("report", 1, 1, 0).answers(0, "withdraw", 5).refuses(STATE, "withdraw", 5).answers(0, "endOf", 5);
    }

    private static void opens() {
        Page page = page("Returns the number of open incidents.");
        page.answers(0, "open").does("report", 1, 1, 0).answers(1, "open").does("report", 1, 1, 10).answers(2, "open");
        page.does("resolve", 0, 0).answers(1, "open").does("correct", 0, 3, 0).answers(1, "open").does("withdraw", 1).answers(0, "open");
        page.does("correct", 1, 1, 2).answers(0, "open").does("report", 2, 2, 2).answers(1, "open");
    }

    private static void nextIncident() {
        Page page = page("that with the greatest level; of several, the one with the earliest start, and then the one with the lowest number.");
        page.does("report", 1, 1, 0).answers(0, "nextIncident").does("report", 2, 2, 5).answers(1, "nextIncident");
        page.does("report", 1, 2, 5).answers(1, "nextIncident").does("report", 1, 2, 6).answers(1, "nextIncident");
        page.does("correct", 3, 2, 4).answers(3, "nextIncident").does("correct", 3, 2, 5).answers(1, "nextIncident");
        page.does("correct", 0, 3, 10).answers(0, "nextIncident").does("report", 1, 3, 10).answers(0, "nextIncident");
        page.does("resolve", 0, 10).answers(4, "nextIncident").does("withdraw", 4).answers(1, "nextIncident");
        page.does("withdraw", 1).answers(2, "nextIncident").does("resolve", 2, 5).answers(3, "nextIncident");
        // neither maintenance nor a join hides it
        page.does("maintain", 0, 10, 20).answers(3, "nextIncident").does("join", 0, 3).answers(3, "nextIncident");
    }

    private static void noneIsOpen() {
        Page page = page("Throws `NoSuchElementException` if none is open");
        page.refuses(MISSING, "nextIncident").does("report", 1, 1, 0).answers(0, "nextIncident").does("resolve", 0, 10).refuses(MISSING, "nextIncident");
        page.does("report", 1, 3, 10).answers(1, "nextIncident").does("withdraw", 1).refuses(MISSING, "nextIncident").does("correct", 1, 3, 0).refuses(MISSING, "nextIncident");
        for (int i = 2; i < 20; i++) {
            page.does("report", 1, 1, 10);
        }
        for (int i = 2; i < 20; i++) {
            page.answers(i, "nextIncident").does("resolve", i, 10);
        }
        page.refuses(MISSING, "nextIncident");
    }

    private static void endOrNone() {
        Page page = page("Returns the minute, or -1 if it is open.");
        page.does("report", 1, 1, 0).answers(-1, "endOf", 0).does("pass", 600).answers(-1, "endOf", 0).does("correct", 0, 2, 3).answers(-1, "endOf", 0);
        page.does("resolve", 0, 610).answers(610, "endOf", 0).does("withdraw", 0).answers(3, "endOf", 0);
        page.does("report", 1, 1, 0).does("withdraw", 1).answers(0, "endOf", 1);
    }

    private static void noSuchIncident() {
        Page page = page("Throws `NoSuchElementException` if there is no such incident");
        page.does("report", 1, 1, 0).does("report", 2, 2, 10);
        for (int i : new int[] {LEAST, LEAST + 1, -2, -1, 2, 3, 19, 20, MOST - 1, MOST}) {
            page.refuses(MISSING, "resolve", i, 10).refuses(MISSING, "correct", i, 1, 0).refuses(MISSING, "withdraw", i);
            for (String name : new String[] {"levelOf", "startOf", "endOf", "caseOf", "caseMinutes"}) {
                page.refuses(MISSING, name, i);
            }
        }
    }

    private static void noSuchComponent() {
        Page page = page("Throws `NoSuchElementException` if there is no such component");
        for (int c : new int[] {LEAST, LEAST + 1, -2, -1, 3, 4, 11, 12, 32, 33, MOST - 1, MOST}) {
            page.refuses(MISSING, "report", c, 1, 0).refuses(MISSING, "report", c, 3, 10);
        }
        page.answers(0, "report", 2, 1, 0);
    }

    public static void main(String[] args) {
        atMostTwenty();
        endedOnesCount();
        levels();
        whatAnIncidentHas();
        startOfAReport();
        startInTheMinuteZero();
        groups();
        isOpen();
        coversItsMinutes();
        endOfOne();
        endAtTheEdgesOfTime();
        resolvedOnes();
        startOfAnOpenOne();
        startOfAResolvedOne();
        coversMinutesAgain();
        withdrawing();
        openOnesAfterTheCall();
        coversNoMinutes();
        opens();
        nextIncident();
        noneIsOpen();
        endOrNone();
        noSuchIncident();
        noSuchComponent();
        end("IncidentsTest");
    }
}
