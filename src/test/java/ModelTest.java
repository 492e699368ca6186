import java.util.ArrayList;
import java.util.List;
import java.util.Random;

/** Many random runs of at most 512 calls, answered by the page and by the model alike. */
public final class ModelTest extends Check {
    private static final int CALLS = 510;

    private final Random random;
    private final Statusboard board = new Statusboard();
    private final Model model = new Model();
    private final List<Call> calls = new ArrayList<>();
    private final List<Call> taken = new ArrayList<>();
    // what the next calls are made from is asked of the model, so as not to use up the page
    private final int longest;

    private ModelTest(int seed) {
        random = new Random(seed);
        longest = new int[] {3, 20, 120, 600}[seed % 4];
    }

    private int upTo(int last) {
        return random.nextInt(last + 1);
    }

    /** Mostly a number below size, at times one just outside or far outside. */
    private int index(int size) {
        int kind = upTo(40);
        if (kind == 0) return -1;
        if (kind == 1) return size;
        if (kind == 2) return upTo(1) == 0 ? Integer.MIN_VALUE : Integer.MAX_VALUE;
        return size == 0 ? 0 : random.nextInt(size);
    }

    private int minute() {
        int now = model.minute();
        switch (upTo(12)) {
            case 0: return now;
            case 1: return now - 1;
            case 2: return now + 1;
            case 3: return 0;
            case 4: return -1;
            case 5: return model.incidents() == 0 ? 0 : model.startOf(random.nextInt(model.incidents()));
            case 6: return model.incidents() == 0 ? 0 : model.endOf(random.nextInt(model.incidents()));
            case 7: return Math.max(0, now - upTo(30));
            case 8: return now + upTo(600);
            default: return upTo(now);
        }
    }

    private int month() {
        return upTo(9) == 0 ? upTo(18) - 1 : upTo(model.minute() / 600);
    }

    private int work() {
        return upTo(9) == 0 ? upTo(10) - 1 : upTo(3);
    }

    private int component() {
        return index(model.components());
    }

    private int person() {
        return index(model.people());
    }

    private int incident() {
        return index(model.incidents());
    }

    private void step(String name, Object... arguments) {
        Call call = new Call(name, arguments);
        calls.add(call);
        String due = call.on(model);
        String got = call.on(board);
        same(() -> "behind " + calls + ", the last one", got, due);
        if (call.isChanging() && !due.startsWith("throws.")) {
            taken.add(call);
        }
    }

    private void change() {
        switch (upTo(18)) {
            case 0: step("addComponent", upTo(3) == 0 ? -1 : component(), upTo(15) == 0 ? upTo(10) : 1 + upTo(8), upTo(20) == 0 ? 'x' : upTo(1) == 0 ? 'w' : 's'); break;
            case 1: step("setWeight", component(), upTo(10)); break;
            case 2: step("addPerson", upTo(9) == 0 ? upTo(4) : 1 + upTo(2)); break;
            case 3: case 4: step("subscribe", person(), component()); break;
            case 5: if (upTo(2) == 0) step("unsubscribe", person(), component()); break;
            case 6: case 7: step("report", component(), upTo(9) == 0 ? upTo(4) : 1 + upTo(2), minute()); break;
            case 8: case 9: step("resolve", incident(), minute()); break;
            case 10: case 11: case 12: step("correct", incident(), upTo(9) == 0 ? upTo(4) : 1 + upTo(2), minute()); break;
            case 13: if (upTo(2) == 0) step("withdraw", incident()); break;
            case 14: if (upTo(2) == 0) step("join", incident(), incident()); break;
            case 15: if (upTo(2) == 0) maintain(); break;
            case 16: step("callOff", work()); break;
            default: step("pass", upTo(20) == 0 ? new int[] {0, 600, 601, -1}[upTo(3)] : 1 + random.nextInt(longest)); break;
        }
    }

    private void maintain() {
        int from = minute();
        int to = upTo(12) == 0 ? upTo(10001) : from + upTo(longest * 3);
        step("maintain", component(), upTo(30) == 0 ? 9999 : from, to);
    }

    private void ask() {
        switch (upTo(17)) {
            case 0: step("state", component()); break;
            case 1: step("stateAt", component(), minute()); break;
            case 2: step("isExcused", component(), minute()); break;
            case 3: step("weightedLoss", component()); break;
            case 4: step("counted", component(), month()); break;
            case 5: case 6: step("uptime", component(), month()); break;
            case 7: step("uptimeByMinutes", component(), month()); break;
            case 8: step("worst"); break;
            case 9: step("nextIncident"); break;
            case 10: step("open"); break;
            case 11: step("cases"); break;
            case 12: step("caseMinutes", incident()); break;
            case 13: step("excusedShare", component()); break;
            case 14: step("meanUptime", month()); break;
            case 15: step("mailsTo", person()); break;
            case 16: step("belowAt", component(), index(model.components())); break;
            default: step("mailState", index(model.mails())); break;
        }
    }

    private void run(int seed) {
        while (calls.size() < CALLS) {
            change();
            if (upTo(4) == 0) ask();
        }
        same(() -> "run " + seed + " at its end", Fingerprint.of(Statusboard.class, taken, taken), Fingerprint.of(Model.class, taken, taken));
    }

    public static void main(String[] args) {
        for (int seed = 0; seed < 240; seed++) new ModelTest(seed).run(seed);
        end("ModelTest");
    }
}
