/** Promises 11 and 37 to 39: cases, which incidents make up. */
public final class CasesTest extends Check {
    /** Two leaves in the minute 10. */
    private static Page page(String... words) {
        return new Page(words).does("addComponent", -1, 1, 'w').does("addComponent", -1, 1, 'w').does("pass", 10);
    }

    private static Page reported(String words, int incidents) {
        Page page = page(words);
        for (int i = 0; i < incidents; i++) {
            page.does("report", i % 2, 1, i % 11);
        }
        return page;
    }

    private static void byItselfAtFirst() {
        Page page = page("at first it is a case by itself.");
        for (int i = 0; i < 20; i++) {
            page.answers(i, "cases").does("report", 0, 1, 0).answers(i, "caseOf", i);
        }
        page.answers(20, "cases");
    }

    private static void lowestNumber() {
        Page page = reported("Each incident belongs to a case, which has the number of its incident with the lowest number", 6);
        page.answers(2, "join", 5, 3).answers(3, "caseOf", 5).answers(3, "caseOf", 3).answers(5, "cases");
        page.answers(2, "join", 2, 4).answers(2, "caseOf", 4).answers(2, "caseOf", 2).answers(4, "cases");
        page.answers(4, "join", 4, 5).answers(3, "cases");
        for (int i = 2; i < 6; i++) {
            page.answers(2, "caseOf", i);
        }
        page.answers(0, "caseOf", 0).answers(1, "caseOf", 1);
        page.answers(5, "join", 5, 0).answers(0, "caseOf", 4).answers(0, "caseOf", 2).answers(1, "caseOf", 1).answers(2, "cases");
        page.answers(6, "join", 1, 3).answers(0, "caseOf", 1).answers(1, "cases");
    }

    private static void allToOne() {
        Page page = reported("Returns the number of incidents of the case after the call.", 20);
        for (int i = 19; i > 0; i--) {
            page.answers(21 - i, "join", i, i - 1).answers(i - 1, "caseOf", 19).answers(i, "cases");
        }
        page.answers(1, "cases").answers(0, "caseOf", 0).answers(0, "caseOf", 10).refuses(STATE, "join", 0, 19).refuses(STATE, "join", 19, 0);
        page = reported("Returns the number of incidents of the case after the call.", 20);
        for (int i = 1; i < 20; i++) {
            page.answers(i + 1, "join", 0, i).answers(0, "caseOf", i).answers(20 - i, "cases");
        }
    }

    private static void bothOfOneCase() {
        Page page = reported("Throws `IllegalStateException` if both belong to the same case", 4);
        page.refuses(STATE, "join", 0, 0).refuses(STATE, "join", 3, 3);
        page.does("join", 1, 3).refuses(STATE, "join", 1, 3).refuses(STATE, "join", 3, 1).refuses(STATE, "join", 1, 1);
        page.does("join", 2, 3).refuses(STATE, "join", 2, 1).refuses(STATE, "join", 1, 2).answers(4, "join", 2, 0).refuses(STATE, "join", 0, 3);
    }

    private static void oneDoesNotExist() {
        Page page = reported("Throws `NoSuchElementException` if one of both incidents does not exist", 3);
        for (int none : new int[] {LEAST, LEAST + 1, -2, -1, 3, 4, 19, 20, MOST - 1, MOST}) {
            page.refuses(MISSING, "join", 0, none).refuses(MISSING, "join", none, 0).refuses(MISSING, "join", 2, none);
            page.refuses(MISSING, "join", none, 2).refuses(MISSING, "join", none, none);
        }
        page.answers(2, "join", 2, 0);
    }

    /** Neither the end of an incident nor its correction takes it out of its case. */
    private static void endedOnesStay() {
        Page page = reported("Each incident belongs to a case", 4);
        page.does("join", 0, 1).does("withdraw", 0).does("resolve", 1, 10).answers(0, "caseOf", 1).answers(3, "cases");
        page.does("withdraw", 2).answers(3, "join", 1, 2).answers(2, "cases").does("correct", 2, 3, 0).answers(0, "caseOf", 2);
        page.does("withdraw", 1).answers(4, "join", 3, 0).answers(1, "cases");
    }

    private static void pastMinutesOnly() {
        Page page = new Page("Returns the number of past minutes that at least one incident of the case of an incident covers.");
        page.does("addComponent", -1, 1, 'w').does("report", 0, 1, 0).answers(0, "caseMinutes", 0).does("pass", 1).answers(1, "caseMinutes", 0);
        page.does("pass", 9).answers(10, "caseMinutes", 0).does("report", 0, 1, 10).answers(0, "caseMinutes", 1).does("report", 0, 1, 9).answers(1, "caseMinutes", 2);
        page.does("resolve", 0, 10).answers(10, "caseMinutes", 0).does("pass", 1).answers(10, "caseMinutes", 0).answers(1, "caseMinutes", 1).answers(2, "caseMinutes", 2);
        page.does("resolve", 2, 10).answers(1, "caseMinutes", 2).does("withdraw", 0).answers(0, "caseMinutes", 0).does("correct", 0, 1, 0).answers(0, "caseMinutes", 0);
    }

    private static void minutesCountOnce() {
        Page page = page("at least one incident of the case of an incident covers");
        page.does("report", 0, 1, 2).does("report", 1, 1, 4).does("report", 0, 3, 9).does("report", 0, 3, 0).does("report", 1, 2, 5);
        page.does("resolve", 0, 5).does("resolve", 1, 7).does("resolve", 3, 1).does("resolve", 4, 8);
        page.answers(3, "caseMinutes", 0).answers(3, "caseMinutes", 1).answers(1, "caseMinutes", 2).answers(1, "caseMinutes", 3).answers(3, "caseMinutes", 4);
        // the first two overlap, the last one begins where the first one ends
        page.copy().does("join", 0, 1).answers(5, "caseMinutes", 0).answers(5, "caseMinutes", 1).answers(1, "caseMinutes", 2);
        page.copy().does("join", 0, 4).answers(6, "caseMinutes", 0).answers(6, "caseMinutes", 4);
        page.does("join", 0, 1).does("join", 2, 1).answers(6, "caseMinutes", 0).answers(6, "caseMinutes", 2).does("pass", 5).answers(11, "caseMinutes", 1);
        page.does("join", 3, 0).answers(12, "caseMinutes", 3).does("join", 4, 3).answers(13, "caseMinutes", 4).does("withdraw", 2).answers(7, "caseMinutes", 2);
        // it is the case that counts, not the component, and excused minutes count as well
        page.does("maintain", 0, 15, 20).does("report", 0, 1, 15).does("pass", 5).answers(5, "caseMinutes", 5).answers(7, "caseMinutes", 2);
    }

    private static void longestCase() {
        Page page = page("Returns the number of past minutes that at least one incident of the case of an incident covers.").does("report", 0, 1, 0);
        for (int i = 0; i < 16; i++) {
            page.does("pass", 600);
        }
        page.does("pass", 389).answers(9999, "caseMinutes", 0).does("correct", 0, 1, 9998).answers(1, "caseMinutes", 0).does("correct", 0, 1, 9999).answers(0, "caseMinutes", 0);
    }

    public static void main(String[] args) {
        byItselfAtFirst();
        lowestNumber();
        allToOne();
        bothOfOneCase();
        oneDoesNotExist();
        endedOnesStay();
        pastMinutesOnly();
        minutesCountOnce();
        longestCase();
        end("CasesTest");
    }
}
