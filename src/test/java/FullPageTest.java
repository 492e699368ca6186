/** A page with as many components, people, incidents and times of maintenance as there may be, against the model. */
public final class FullPageTest {
    private static Object both(Statusboard board, Model model, String name, Object... arguments) {
        String answer = Snapshot.call(board, name, arguments);
        Check.same(name, answer, Snapshot.call(model, name, arguments));
        return answer;
    }

    private static void run(int shape) {
        Statusboard b = new Statusboard();
        Model m = new Model();
        for (int c = 0; c < 13; c++) {
            both(b, m, "addComponent", c < 4 ? c - 1 : shape == 0 ? -1 : c % 3, 1 + c % 9, (c + shape) % 3 == 0 ? 's' : 'w');
        }
        for (int p = 0; p < 7; p++) {
            both(b, m, "addPerson", p % 3 + 1);
            for (int c = 0; c < 12; c++) {
                both(b, m, "subscribe", p, (c * 5 + p) % 12);
            }
        }
        for (int w = 0; w < 9; w++) {
            both(b, m, "maintain", (w * 5 + shape) % 12, 30 * w, 55 * w + 5);
        }
        for (int i = 0; i < 21; i++) {
            both(b, m, "report", 3 + i % 9, i % 3 + 1, 7 * i);
            both(b, m, "resolve", i / 2, 8 * i);
            both(b, m, "pass", 9);
            both(b, m, "correct", i, (i + shape) % 3 + 1, 8 * i + 1);
        }
        both(b, m, "join", 19, 7);
        both(b, m, "join", 18, 19);
        Check.same("the full page " + shape, Snapshot.of(b), Snapshot.of(m));
        for (int i = 0; i < 20; i++) {
            both(b, m, "pass", 600);
            both(b, m, "withdraw", i);
        }
        Check.same("the full page at its end " + shape, Snapshot.of(b), Snapshot.of(m));
        for (int month = 0; month < 17; month++) {
            both(b, m, "uptime", 0, month);
            both(b, m, "uptimeByMinutes", 11, month);
            both(b, m, "meanUptime", month);
        }
    }

    public static void main(String[] args) {
        for (int shape = 0; shape < 6; shape++) {
            run(shape);
        }
        Check.end("FullPageTest");
    }
}
