import java.lang.reflect.InvocationTargetException;
import java.lang.reflect.Method;

/** All that a page (or the model of one) tells of itself, as one text. */
final class Snapshot {
    private Snapshot() {
    }

    /** The answer of a call as a text, or throws.NAME. */
    static String call(Object board, String name, Object... arguments) {
        Class<?>[] types = new Class<?>[arguments.length];
        for (int i = 0; i < types.length; i++) {
            types[i] = arguments[i] instanceof Character ? char.class : int.class;
        }
        try {
            Method method = board.getClass().getMethod(name, types);
            method.setAccessible(true);
            return String.valueOf(method.invoke(board, arguments));
        } catch (InvocationTargetException e) {
            return thrown(e.getCause());
        } catch (ReflectiveOperationException e) {
            throw new IllegalStateException(e);
        }
    }

    /** What the machine throws by itself is no answer: then the test ends at once. */
    private static String thrown(Throwable cause) {
        String name = cause.getClass().getSimpleName();
        boolean written = "NoSuchElementException IllegalArgumentException UnsupportedOperationException IllegalStateException IndexOutOfBoundsException ArithmeticException".contains(name);
        if (!written || "/ by zero".equals(cause.getMessage())) {
            throw new IllegalStateException("the machine threw", cause);
        }
        return "throws." + name;
    }

    private static int number(Object board, String name) {
        return Integer.parseInt(call(board, name));
    }

    private static void tell(StringBuilder text, Object board, String name, Object... arguments) {
        text.append(name);
        for (Object argument : arguments) {
            text.append(' ').append(argument);
        }
        text.append('=').append(call(board, name, arguments)).append('\n');
    }

    static String of(Object board) {
        StringBuilder text = new StringBuilder();
        for (String name : new String[] {"components", "people", "incidents", "minute", "worst", "open", "nextIncident", "cases", "mails"}) {
            tell(text, board, name);
        }
        for (int c = 0; c < number(board, "components"); c++) {
            tellComponent(text, board, c);
        }
        for (int i = 0; i < number(board, "incidents"); i++) {
            for (String name : new String[] {"levelOf", "startOf", "endOf", "caseOf", "caseMinutes"}) {
                tell(text, board, name, i);
            }
        }
        for (int p = 0; p < number(board, "people"); p++) {
            tell(text, board, "subscriptions", p);
            tell(text, board, "mailsTo", p);
        }
        for (int m = 0; m < number(board, "mails"); m++) {
            for (String name : new String[] {"mailPerson", "mailComponent", "mailState", "mailMinute"}) {
                tell(text, board, name, m);
            }
        }
        tell(text, board, "meanUptime", 0);
        return text.toString();
    }

    private static void tellComponent(StringBuilder text, Object board, int c) {
        for (String name : new String[] {"isGroup", "depth", "leaves", "state", "weightedLoss", "excusedShare"}) {
            tell(text, board, name, c);
        }
        for (int i = 0; i < 12; i++) {
            tell(text, board, "belowAt", c, i);
            tell(text, board, "pathAt", c, i);
        }
        // the only way to see a weight is to set it
        String weight = call(board, "setWeight", c, 1);
        call(board, "setWeight", c, Integer.parseInt(weight));
        text.append("weight=").append(weight).append('\n');
        int present = number(board, "minute");
        int step = present < 100 ? 1 : present / 97 + 1;
        for (int minute = 0; minute <= present; minute += step) {
            tell(text, board, "stateAt", c, minute);
        }
        for (int minute = 0; minute < 10000; minute += minute < present + 100 ? step : 499) {
            tell(text, board, "isExcused", c, minute);
        }
        tell(text, board, "counted", c, 0);
        tell(text, board, "uptime", c, 0);
        tell(text, board, "uptimeByMinutes", c, 0);
    }
}
