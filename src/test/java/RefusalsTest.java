import java.nio.file.Files;
import java.nio.file.Path;
import java.util.Set;
import java.util.regex.Matcher;
import java.util.regex.Pattern;

/** Each exception of each call, alone and together with those that are listed behind it, and nothing is changed. */
public final class RefusalsTest extends Check {
    private static final String WORDS = "A method that throws an exception changes nothing. If several exceptions apply, the one that is listed first is thrown.";
    // What is not there can't be the cause of these, or all that is there is.
    private static final Set<String> NEVER_TOGETHER = Set.of(
        "addComponent NoSuchElementException UnsupportedOperationException",
        "subscribe NoSuchElementException IllegalStateException",
        "report NoSuchElementException UnsupportedOperationException",
        "resolve NoSuchElementException IllegalStateException",
        "withdraw NoSuchElementException IllegalStateException",
        "callOff NoSuchElementException IllegalStateException",
        "weightedLoss NoSuchElementException UnsupportedOperationException");

    /**
     * 0 over 1 and 2, 3 and 4 alone, in the minute 10; 0 incidents of 1 to 3: 0 of 2 open from 4 on, 1 of 2 resolved at 6,
     * 2 of 3 withdrawn, 3 of 3 resolved without minutes; maintenance 0 has begun, 1 begins now, 2 is called off, 3 is over.
     */
    private static Page page() {
        Page page = new Page(WORDS);
        page.does("addComponent", -1, 2, 's').does("addComponent", 0, 3, 'w').does("addComponent", 0, 4, 'w');
        page.does("addComponent", -1, 5, 's').does("addComponent", -1, 6, 'w');
        for (int least = 1; least <= 3; least++) {
            page.does("addPerson", least).does("subscribe", least - 1, 0).does("subscribe", least - 1, 2);
        }
        page.does("maintain", 3, 5, 40).does("maintain", 1, 10, 30).does("maintain", 4, 20, 50).does("callOff", 2);
        page.does("maintain", 1, 2, 3).does("pass", 10);
        page.does("report", 2, 1, 4).does("report", 2, 2, 2).does("resolve", 1, 6);
        page.does("report", 3, 3, 8).does("withdraw", 2).does("report", 3, 1, 7).does("resolve", 3, 7);
        return page.does("join", 1, 3);
    }

    /** The same page with as many things as there may be, in the minute 9999. */
    private static Page fullPage() {
        Page page = page();
        for (int c = 5; c < 12; c++) {
            page.does("addComponent", c < 9 ? 0 : c - 1, 1, 'w');
        }
        for (int p = 3; p < 6; p++) {
            page.does("addPerson", 2).does("subscribe", p, 2);
        }
        for (int i = 4; i < 20; i++) {
            page.does("report", i % 3 + 5, i % 3 + 1, i % 11);
        }
        for (int m = 4; m < 8; m++) {
            page.does("maintain", m, 9990 + m, m < 7 ? 10000 : 9999);
        }
        for (int i = 0; i < 16; i++) {
            page.does("pass", 600);
        }
        return page.does("pass", 389);
    }

    private static Object[] missing(int size) {
        return new Object[] {LEAST, -1, size, size + 1, MOST};
    }

    private static void components() {
        new Refusals(page(), "addComponent", MISSING, RANGE, KIND, STATE)
            .good(-1, 0, 1, 4).bad(KIND, 2, 3).bad(MISSING, LEAST, -2, 5, 6, MOST)
            .good(1, 9).bad(RANGE, LEAST, -1, 0, 10, MOST)
            .good('w', 's').bad(RANGE, 'v', (char) 0, (char) 65535).check();
        new Refusals(fullPage(), "addComponent", MISSING, RANGE, KIND, STATE)
            .good(-1, 0, 11).bad(KIND, 2, 5).bad(MISSING, LEAST, -2, 12, MOST)
            .good(1, 9).bad(RANGE, LEAST, 0, 10, MOST)
            .good('w', 's').bad(RANGE, 'x').check(STATE);
        new Refusals(page(), "setWeight", MISSING, RANGE)
            .good(0, 2, 4).bad(MISSING, missing(5))
            .good(1, 9).bad(RANGE, LEAST, -1, 0, 10, MOST).check();
        for (String name : new String[] {"isGroup", "depth", "leaves", "state"}) {
            new Refusals(page(), name, MISSING).good(0, 4).bad(MISSING, missing(5)).check();
        }
        for (String name : new String[] {"belowAt", "pathAt"}) {
            new Refusals(page(), name, MISSING, INDEX).good(0, 4).bad(MISSING, missing(5))
                .good(0).bad(INDEX, LEAST, -1, 3, 5, 12, MOST).check();
        }
    }

    private static void people() {
        new Refusals(page(), "addPerson", RANGE, STATE).good(1, 3).bad(RANGE, LEAST, -1, 0, 4, MOST).check();
        new Refusals(fullPage(), "addPerson", RANGE, STATE).good(1, 3).bad(RANGE, LEAST, 0, 4, MOST).check(STATE);
        new Refusals(page(), "subscribe", MISSING, STATE).good(0, 2).bad(MISSING, missing(3)).good(1, 4).bad(MISSING, missing(5)).check();
        new Refusals(page(), "subscribe", STATE).good(0, 2).good().bad(STATE, 0, 2).check();
        new Refusals(page(), "unsubscribe", MISSING, STATE).good(0, 2).bad(MISSING, missing(3)).good(0, 2).bad(MISSING, missing(5)).check();
        new Refusals(page(), "unsubscribe", MISSING, STATE).good(0, 2).bad(MISSING, missing(3)).good().bad(STATE, 1, 4).bad(MISSING, missing(5)).check();
        for (String name : new String[] {"subscriptions", "mailsTo"}) {
            new Refusals(page(), name, MISSING).good(0, 2).bad(MISSING, missing(3)).check();
        }
        for (String name : new String[] {"mailPerson", "mailComponent", "mailState", "mailMinute"}) {
            new Refusals(page(), name, MISSING).good(0, 4).bad(MISSING, missing(5)).check();
        }
    }

    private static void incidents() {
        new Refusals(page(), "report", MISSING, RANGE, KIND, STATE)
            .good(1, 2, 3, 4).bad(KIND, 0).bad(MISSING, missing(5))
            .good(1, 3).bad(RANGE, LEAST, -1, 0, 4, MOST)
            .good(0, 10).bad(RANGE, LEAST, -1, 11, MOST).check();
        new Refusals(fullPage(), "report", MISSING, RANGE, KIND, STATE)
            .good(2, 11).bad(KIND, 0, 9).bad(MISSING, missing(12))
            .good(1, 3).bad(RANGE, LEAST, 0, 4, MOST)
            .good(0, 9999).bad(RANGE, LEAST, -1, 10000, MOST).check(STATE);
        new Refusals(page(), "resolve", MISSING, STATE, RANGE)
            .good(0).bad(STATE, 1, 2, 3).bad(MISSING, missing(4))
            .good(4, 10).bad(RANGE, LEAST, -1, 0, 3, 11, MOST).check();
        new Refusals(page(), "correct", MISSING, RANGE)
            .good(0).bad(MISSING, missing(4))
            .good(1, 3).bad(RANGE, LEAST, -1, 0, 4, MOST)
            .good(0, 10).bad(RANGE, LEAST, -1, 11, MOST).check();
        new Refusals(page(), "correct", RANGE)
            .good(1).good(1, 3).bad(RANGE, LEAST, -1, 0, 4, MOST)
            .good(0, 6).bad(RANGE, LEAST, -1, 7, 10, 11, MOST).check();
        new Refusals(page(), "withdraw", MISSING, STATE).good(0, 1).bad(STATE, 2, 3).bad(MISSING, missing(4)).check();
        for (String name : new String[] {"levelOf", "startOf", "endOf", "caseOf", "caseMinutes"}) {
            new Refusals(page(), name, MISSING).good(0, 3).bad(MISSING, missing(4)).check();
        }
        new Refusals(new Page(WORDS), "nextIncident", MISSING).check(MISSING);
        new Refusals(new Page(WORDS), "worst", MISSING).check(MISSING);
    }

    private static void cases() {
        new Refusals(page(), "join", MISSING, STATE).good(0).bad(MISSING, missing(4)).good(1, 2, 3).bad(MISSING, missing(4)).check();
        new Refusals(page(), "join", STATE).good().bad(STATE, 1, 3).good().bad(STATE, 1, 3).check();
        new Refusals(page(), "join", STATE).good(0).good().bad(STATE, 0).check();
        // two numbers that are the same and of nothing
        for (Object none : missing(4)) {
            new Refusals(page(), "join", MISSING, STATE).good().bad(MISSING, none).good().bad(MISSING, none).check(STATE);
        }
    }

    private static void minutes() {
        new Refusals(page(), "pass", RANGE, STATE).good(1, 600).bad(RANGE, LEAST, -1, 0, 601, MOST).check();
        Page late = page();
        for (int i = 0; i < 16; i++) {
            late.does("pass", 600);
        }
        late.does("pass", 380);
        new Refusals(late, "pass", RANGE, STATE).good(1, 9).bad(STATE, 10, 11, 600).bad(RANGE, LEAST, -1, 0, 601, MOST).check();
        new Refusals(fullPage(), "pass", RANGE, STATE).good(1, 600).bad(RANGE, LEAST, -1, 0, 601, MOST).check(STATE);
        new Refusals(page(), "maintain", MISSING, RANGE, STATE)
            .good(0, 4).bad(MISSING, missing(5))
            .good(10, 50).bad(RANGE, LEAST, -1, 0, 9, 10000, MOST)
            .good(51, 10000).bad(RANGE, LEAST, -1, 0, 9, 10, 10001, MOST).check();
        new Refusals(fullPage(), "maintain", MISSING, RANGE, STATE)
            .good(0, 11).bad(MISSING, missing(12))
            .good(9999).bad(RANGE, LEAST, 9998, 10000, MOST)
            .good(10000).bad(RANGE, LEAST, 9999, 10001, MOST).check(STATE);
        new Refusals(page(), "callOff", MISSING, STATE).good(1).bad(STATE, 0, 2, 3).bad(MISSING, missing(4)).check();
        new Refusals(fullPage(), "callOff", MISSING, STATE).good().bad(STATE, 0, 1, 2, 3, 4, 7).bad(MISSING, missing(8)).check();
    }

    private static void states() {
        new Refusals(page(), "stateAt", MISSING, RANGE).good(0, 4).bad(MISSING, missing(5))
            .good(0, 10).bad(RANGE, LEAST, -1, 11, 9999, MOST).check();
        new Refusals(page(), "isExcused", MISSING, RANGE).good(0, 4).bad(MISSING, missing(5))
            .good(0, 11, 9999).bad(RANGE, LEAST, -1, 10000, MOST).check();
        new Refusals(page(), "weightedLoss", MISSING, KIND).good(0).bad(KIND, 1, 2, 3, 4).bad(MISSING, missing(5)).check();
    }

    private static void uptimes() {
        Page unpassed = new Page(WORDS).does("addComponent", -1, 1, 'w');
        new Refusals(page(), "counted", MISSING, RANGE).good(0, 4).bad(MISSING, missing(5)).good(0, 16).bad(RANGE, LEAST, -1, 17, MOST).check();
        for (String name : new String[] {"uptime", "uptimeByMinutes"}) {
            new Refusals(page(), name, MISSING, RANGE, STATE).good(0, 4).bad(MISSING, missing(5))
                .good(0).bad(STATE, 1, 16).bad(RANGE, LEAST, -1, 17, MOST).check();
            new Refusals(unpassed, name, MISSING, RANGE, STATE).good(0).bad(MISSING, missing(1))
                .good(0, 16).bad(RANGE, LEAST, -1, 17, MOST).check(STATE);
        }
        new Refusals(page(), "excusedShare", MISSING, DIVISION).good(0, 4).bad(MISSING, missing(5)).check();
        new Refusals(unpassed, "excusedShare", MISSING, DIVISION).good(0).bad(MISSING, missing(1)).check(DIVISION);
        new Refusals(page(), "meanUptime", RANGE, DIVISION).good(0).bad(DIVISION, 1, 16).bad(RANGE, LEAST, -1, 17, MOST).check();
        new Refusals(unpassed, "meanUptime", RANGE, DIVISION).good(0, 16).bad(RANGE, LEAST, -1, 17, MOST).check(DIVISION);
        new Refusals(new Page(WORDS), "meanUptime", RANGE, DIVISION).good(0, 16).bad(RANGE, LEAST, -1, 17, MOST).check(DIVISION);
    }

    /** Every exception that the face lists was met alone, and with each one behind it. */
    private static void nothingIsLeftOut() throws Exception {
        Pattern line = Pattern.compile(" {4}public \\w+ (\\w+)\\(.* throws (.*);");
        int calls = 0;
        for (String text : Files.readAllLines(Path.of("../shared/DOC.md"))) {
            Matcher found = line.matcher(text);
            if (found.matches()) {
                calls++;
                met(found.group(1), found.group(2).split(", "));
            }
        }
        same("calls that throw", calls, 40);
    }

    private static void met(String name, String[] listed) {
        for (int i = 0; i < listed.length; i++) {
            same("met " + name + " " + listed[i], Refusals.SEEN.contains(name + " " + listed[i]), true);
            for (int j = i + 1; j < listed.length; j++) {
                String both = name + " " + listed[i] + " " + listed[j];
                same("met " + both, Refusals.SEEN.contains(both), !NEVER_TOGETHER.contains(both));
            }
        }
    }

    public static void main(String[] args) throws Exception {
        components();
        people();
        incidents();
        cases();
        minutes();
        states();
        uptimes();
        nothingIsLeftOut();
        end("RefusalsTest");
    }
}
