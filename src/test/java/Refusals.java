import java.util.ArrayList;
import java.util.Arrays;
import java.util.List;
import java.util.Set;
import java.util.TreeSet;

/** One call with every combination of some arguments, of which each may be a reason to refuse the call. */
final class Refusals {
    /** The reasons that stood together, as texts: the call, then its exceptions in the order in which they are listed. */
    static final Set<String> SEEN = new TreeSet<>();

    private final Page page;
    private final String name;
    private final List<Class<?>> listed;
    private final List<List<Object>> values = new ArrayList<>();
    private final List<List<Class<?>>> reasons = new ArrayList<>();

    Refusals(Page page, String name, Class<?>... listed) {
        this.page = page;
        this.name = name;
        this.listed = Arrays.asList(listed);
    }

    /** The next parameter, with values that are in order. */
    Refusals good(Object... fine) {
        values.add(new ArrayList<>());
        reasons.add(new ArrayList<>());
        return add(null, fine);
    }

    /** Values of the same parameter for which the call is refused. */
    Refusals bad(Class<?> reason, Object... wrong) {
        return add(reason, wrong);
    }

    private Refusals add(Class<?> reason, Object... more) {
        int last = values.size() - 1;
        for (Object value : more) {
            values.get(last).add(value);
            reasons.get(last).add(reason);
        }
        return this;
    }

    /** Makes all calls; the page itself may be a reason to refuse each of them. */
    void check(Class<?>... ofThePage) {
        combine(new Object[values.size()], 0, new ArrayList<>(Arrays.asList(ofThePage)));
    }

    private void combine(Object[] arguments, int at, List<Class<?>> found) {
        if (at == arguments.length) {
            call(arguments.clone(), found);
            return;
        }
        for (int i = 0; i < values.get(at).size(); i++) {
            List<Class<?>> more = new ArrayList<>(found);
            if (reasons.get(at).get(i) != null) {
                more.add(reasons.get(at).get(i));
            }
            arguments[at] = values.get(at).get(i);
            combine(arguments, at + 1, more);
        }
    }

    private void call(Object[] arguments, List<Class<?>> found) {
        StringBuilder seen = new StringBuilder(name);
        Class<?> due = null;
        for (Class<?> exception : listed) {
            if (found.contains(exception)) {
                seen.append(' ').append(exception.getSimpleName());
                due = due == null ? exception : due;
            }
        }
        SEEN.add(seen.toString());
        if (due == null) {
            page.copy().does(name, arguments);
        } else {
            page.refuses(due, name, arguments);
        }
    }
}
