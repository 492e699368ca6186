import java.io.IOException;
import java.nio.file.Files;
import java.nio.file.Path;
import java.util.ArrayList;
import java.util.List;

/**
 * A Statusboard and the calls that made it what it is, for a test of one sentence of the document. The calls are kept,
 * so no object is ever used for more than 512 calls: behind that they go on on a new one.
 */
final class Page {
    static final int MOST_CALLS = 512;
    private static final String DOCUMENT = document();

    private final String words;
    private final List<Call> changes = new ArrayList<>();
    private Object board = new Statusboard();
    private int used = 0;
    private String fingerprint = "";

    /** A new page for the test of these words, which must stand in the document. */
    Page(String... sentences) {
        words = String.join("\", \"", sentences);
        for (String sentence : sentences) {
            Check.same("the document's words \"" + sentence + "\"", DOCUMENT.contains(sentence), true);
        }
    }

    private static String document() {
        try {
            return Files.readString(Path.of("../shared/DOC.md")).replaceAll("\\s+", " ");
        } catch (IOException e) {
            throw new IllegalStateException(e);
        }
    }

    private Page(Page other) {
        words = other.words;
    }

    /** Another page behind the same calls. */
    Page copy() {
        Page copy = new Page(this);
        copy.changes.addAll(changes);
        copy.used = MOST_CALLS;
        return copy;
    }

    List<Call> changes() {
        return changes;
    }

    /** Makes a call whose answer other tests look at. */
    Page does(String name, Object... arguments) {
        Call call = new Call(name, arguments);
        String answer = make(call);
        Check.same(() -> told(call) + ", " + answer + ", is refused:", answer.startsWith("throws.") || answer.startsWith("machine."), false);
        return this;
    }

    /** Makes a call that answers just this. */
    Page answers(Object due, String name, Object... arguments) {
        Call call = new Call(name, arguments);
        String answer = make(call);
        Check.same(() -> told(call), answer, String.valueOf(due));
        return this;
    }

    /** The call throws just this, and changes nothing. */
    Page refuses(Class<?> due, String name, Object... arguments) {
        Call call = new Call(name, arguments);
        if (fingerprint.isEmpty()) {
            fingerprint = Fingerprint.of(Statusboard.class, changes, changes);
        }
        Check.same(() -> told(call), call.on(live()), "throws." + due.getSimpleName());
        List<Call> behind = new ArrayList<>(changes);
        behind.add(call);
        Check.same(() -> told(call) + " changes nothing, but afterwards", changed(Fingerprint.of(Statusboard.class, behind, changes)), "");
        return this;
    }

    /** The first line in which a page differs from this one. */
    private String changed(String other) {
        if (other.equals(fingerprint)) {
            return "";
        }
        String[] lines = fingerprint.split("\n");
        String[] others = other.split("\n");
        int at = 0;
        while (at < lines.length && at < others.length && lines[at].equals(others[at])) {
            at++;
        }
        return at < others.length ? others[at] : "fewer lines";
    }

    private String make(Call call) {
        Object now = live();
        if (call.isChanging()) {
            changes.add(call);
            fingerprint = "";
        }
        return call.on(now);
    }

    /** The object for one more call. */
    private Object live() {
        if (used >= MOST_CALLS) {
            board = Fingerprint.replay(Statusboard.class, changes);
            used = changes.size();
        }
        used++;
        return board;
    }

    private String told(Call call) {
        return "\"" + words + "\", behind " + changes + ": " + call;
    }
}
