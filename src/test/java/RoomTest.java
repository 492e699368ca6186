import java.lang.management.ManagementFactory;

/** What a run makes stays small: all calls of one run live in one room, and only mails may take more of it. */
public final class RoomTest extends Check {
    private static final int PAGES = 50;

    private static long made() {
        return ((com.sun.management.ThreadMXBean) ManagementFactory.getThreadMXBean()).getCurrentThreadAllocatedBytes();
    }

    private static Statusboard fullPage() {
        Statusboard b = new Statusboard();
        for (int c = 0; c < 12; c++) {
            b.addComponent(c < 3 ? c - 1 : c % 3, 1 + c % 9, c % 2 == 0 ? 'w' : 's');
        }
        for (int p = 0; p < 6; p++) {
            b.addPerson(1);
            b.subscribe(p, p);
        }
        for (int m = 0; m < 8; m++) {
            b.maintain(m, 40 * m, 70 * m + 5);
        }
        b.pass(600);
        for (int i = 0; i < 20; i++) {
            b.report(3 + i % 9, i % 3 + 1, 20 * i);
        }
        return b;
    }

    private static int ask(Statusboard b) {
        double sum = b.worst() + b.open() + b.nextIncident() + b.cases() + b.mails() + b.meanUptime(0);
        for (int c = 0; c < 12; c++) {
            sum += b.state(c) + b.stateAt(c, 300) + b.uptime(c, 0) + b.uptimeByMinutes(c, 0) + b.counted(c, 0) + b.excusedShare(c);
            sum += b.belowAt(c, 0) + b.pathAt(c, 0) + b.leaves(c) + b.depth(c) + (b.isGroup(c) ? b.weightedLoss(c) : 0);
        }
        for (int i = 0; i < 20; i++) {
            sum += b.caseMinutes(i);
        }
        return (int) sum;
    }

    private static void questions() {
        Statusboard[] pages = new Statusboard[PAGES];
        for (int i = 0; i < PAGES; i++) {
            pages[i] = fullPage();
        }
        ask(fullPage());
        long before = made();
        int sum = 0;
        for (int i = 0; i < PAGES; i++) {
            sum += ask(pages[i]);
        }
        long bytes = made() - before;
        same("questions make no objects: " + bytes + " bytes", bytes < 4096 && sum != 0, true);
    }

    private static void newPage() {
        long before = made();
        Statusboard fresh = new Statusboard();
        long fields = (made() - before) / 4;
        same("a new page takes " + fields + " fields", fields < 1000 && fresh.minute() == 0, true);
    }

    private static void mails() {
        Statusboard b = fullPage();
        long before = made();
        for (int i = 0; i < 440; i++) {
            b.correct(0, i % 3 + 1, 0);
        }
        long fields = (made() - before) / 4;
        same("mails take " + fields + " fields", fields < 60000, true);
    }

    public static void main(String[] args) {
        questions();
        newPage();
        mails();
        end("RoomTest");
    }
}
