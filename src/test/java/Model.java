import java.util.ArrayList;
import java.util.List;
import java.util.NoSuchElementException;

/** The document once more, in another way: every answer is found afresh, minute by minute and by recursion. */
public final class Model {
    private static final int[] LOSS = {0, 25, 50, 100};

    private final List<int[]> comps = new ArrayList<>();      // parent, weight, rule
    private final List<List<Integer>> wishes = new ArrayList<>();
    private final List<Integer> leasts = new ArrayList<>();
    private final List<int[]> troubles = new ArrayList<>();   // component, level, start, end, case
    private final List<int[]> works = new ArrayList<>();      // component, from, to
    private final List<int[]> sent = new ArrayList<>();       // person, component, level, minute
    private int now = 0;

    private void component(int c) {
        if (c < 0 || c >= comps.size()) throw new NoSuchElementException();
    }

    private void person(int p) {
        if (p < 0 || p >= leasts.size()) throw new NoSuchElementException();
    }

    private void incident(int i) {
        if (i < 0 || i >= troubles.size()) throw new NoSuchElementException();
    }

    private static void between(int x, int from, int to) {
        if (x < from || x > to) throw new IllegalArgumentException();
    }

    private List<Integer> children(int c) {
        List<Integer> found = new ArrayList<>();
        for (int x = 0; x < comps.size(); x++) if (comps.get(x)[0] == c) found.add(x);
        return found;
    }

    private List<Integer> subtree(int c) {
        List<Integer> found = new ArrayList<>();
        found.add(c);
        for (int child : children(c)) found.addAll(subtree(child));
        return found;
    }

    private List<Integer> path(int c) {
        List<Integer> found = new ArrayList<>();
        for (int x = c; x != -1; x = comps.get(x)[0]) found.add(0, x);
        return found;
    }

    private static boolean covers(int[] trouble, int minute) {
        return minute >= trouble[2] && (trouble[3] == -1 || minute < trouble[3]);
    }

    private int mean(int c, int minute) {
        int losses = 0;
        int weights = 0;
        for (int child : children(c)) {
            losses += LOSS[level(child, minute)] * comps.get(child)[1];
            weights += comps.get(child)[1];
        }
        return losses / weights;
    }

    private int level(int c, int minute) {
        List<Integer> below = children(c);
        int most = 0;
        if (below.isEmpty()) {
            for (int[] trouble : troubles) if (trouble[0] == c && covers(trouble, minute)) most = Math.max(most, trouble[1]);
            return most;
        }
        if (comps.get(c)[2] == 'w') {
            for (int child : below) most = Math.max(most, level(child, minute));
            return most;
        }
        int mean = mean(c, minute);
        return mean == 0 ? 0 : mean <= 33 ? 1 : mean <= 66 ? 2 : 3;
    }

    private int[] levels() {
        int[] all = new int[comps.size()];
        for (int c = 0; c < all.length; c++) all[c] = level(c, now);
        return all;
    }

    private void send(int[] old) {
        int[] fresh = levels();
        for (int p = 0; p < leasts.size(); p++) {
            int best = -1;
            for (int c = fresh.length - 1; c >= 0; c--) {
                boolean told = wishes.get(p).contains(c) && !isExcused(c, now) && old[c] != fresh[c]
                    && (old[c] >= leasts.get(p) || fresh[c] >= leasts.get(p));
                if (told && (best == -1 || path(c).size() <= path(best).size())) best = c;
            }
            if (best != -1) sent.add(new int[] {p, best, fresh[best], now});
        }
    }

    public int addComponent(int parent, int weight, char rule) {
        if (parent != -1) component(parent);
        between(weight, 1, 9);
        if ("ws".indexOf(rule) < 0) throw new IllegalArgumentException();
        for (int[] trouble : troubles) if (trouble[0] == parent) throw new UnsupportedOperationException();
        if (comps.size() == 12) throw new IllegalStateException();
        comps.add(new int[] {parent, weight, rule});
        return comps.size() - 1;
    }

    public int setWeight(int c, int weight) {
        component(c);
        between(weight, 1, 9);
        int old = comps.get(c)[1];
        comps.get(c)[1] = weight;
        return old;
    }

    public int addPerson(int least) {
        between(least, 1, 3);
        if (leasts.size() == 6) throw new IllegalStateException();
        leasts.add(least);
        wishes.add(new ArrayList<>());
        return leasts.size() - 1;
    }

    public int subscribe(int p, int c) {
        person(p);
        component(c);
        if (wishes.get(p).contains(c)) throw new IllegalStateException();
        wishes.get(p).add(c);
        return wishes.get(p).size();
    }

    public int unsubscribe(int p, int c) {
        person(p);
        component(c);
        if (!wishes.get(p).contains(c)) throw new IllegalStateException();
        wishes.get(p).remove(Integer.valueOf(c));
        return wishes.get(p).size();
    }

    public int report(int c, int level, int start) {
        component(c);
        between(level, 1, 3);
        between(start, 0, now);
        if (!children(c).isEmpty()) throw new UnsupportedOperationException();
        if (troubles.size() == 20) throw new IllegalStateException();
        int[] old = levels();
        troubles.add(new int[] {c, level, start, -1, troubles.size()});
        send(old);
        return troubles.size() - 1;
    }

    public int resolve(int i, int end) {
        incident(i);
        int[] trouble = troubles.get(i);
        if (trouble[3] != -1) throw new IllegalStateException();
        between(end, trouble[2], now);
        int[] old = levels();
        trouble[3] = end;
        send(old);
        return end - trouble[2];
    }

    public int correct(int i, int level, int start) {
        incident(i);
        int[] trouble = troubles.get(i);
        between(level, 1, 3);
        between(start, 0, trouble[3] == -1 ? now : trouble[3]);
        int[] old = levels();
        int before = trouble[1];
        trouble[1] = level;
        trouble[2] = start;
        send(old);
        return before;
    }

    public int withdraw(int i) {
        incident(i);
        int[] trouble = troubles.get(i);
        if (trouble[3] == trouble[2]) throw new IllegalStateException();
        int[] old = levels();
        trouble[3] = trouble[2];
        send(old);
        return open();
    }

    public int join(int one, int other) {
        incident(one);
        incident(other);
        int a = troubles.get(one)[4];
        int b = troubles.get(other)[4];
        if (a == b) throw new IllegalStateException();
        int number = 0;
        for (int[] trouble : troubles) {
            if (trouble[4] == a || trouble[4] == b) {
                trouble[4] = a < b ? a : b;
                number++;
            }
        }
        return number;
    }

    public int maintain(int c, int from, int to) {
        component(c);
        between(from, now, 9999);
        if (to <= from) throw new IllegalArgumentException();
        between(to, 1, 10000);
        if (works.size() == 8) throw new IllegalStateException();
        works.add(new int[] {c, from, to});
        return works.size() - 1;
    }

    public int callOff(int m) {
        if (m < 0 || m >= works.size()) throw new NoSuchElementException();
        int[] work = works.get(m);
        if (work[1] < now || work[1] == work[2]) throw new IllegalStateException();
        int length = work[2] - work[1];
        work[2] = work[1];
        return length;
    }

    public int pass(int minutes) {
        between(minutes, 1, 600);
        if (now + minutes > 9999) throw new IllegalStateException();
        now += minutes;
        return now;
    }

    public int components() {
        return comps.size();
    }

    public int people() {
        return leasts.size();
    }

    public int incidents() {
        return troubles.size();
    }

    public int minute() {
        return now;
    }

    public boolean isGroup(int c) {
        component(c);
        return !children(c).isEmpty();
    }

    public int depth(int c) {
        component(c);
        return path(c).size() - 1;
    }

    public int leaves(int c) {
        component(c);
        int number = 0;
        for (int x : subtree(c)) if (children(x).isEmpty()) number++;
        return number;
    }

    public int belowAt(int c, int index) {
        component(c);
        if (index < 0 || index >= subtree(c).size()) throw new IndexOutOfBoundsException();
        return subtree(c).get(index);
    }

    public int pathAt(int c, int index) {
        component(c);
        if (index < 0 || index >= path(c).size()) throw new IndexOutOfBoundsException();
        return path(c).get(index);
    }

    public char state(int c) {
        component(c);
        return "udpm".charAt(level(c, now));
    }

    public char stateAt(int c, int minute) {
        component(c);
        between(minute, 0, now);
        return "udpm".charAt(level(c, minute));
    }

    public boolean isExcused(int c, int minute) {
        component(c);
        between(minute, 0, 9999);
        for (int[] work : works) if (path(c).contains(work[0]) && work[1] <= minute && minute < work[2]) return true;
        return false;
    }

    public int weightedLoss(int c) {
        component(c);
        if (children(c).isEmpty()) throw new UnsupportedOperationException();
        return mean(c, now);
    }

    public int counted(int c, int month) {
        component(c);
        between(month, 0, 16);
        int number = 0;
        for (int minute = 600 * month; minute < 600 * month + 600 && minute < now; minute++) if (!isExcused(c, minute)) number++;
        return number;
    }

    public int uptime(int c, int month) {
        int number = counted(c, month);
        if (number == 0) throw new IllegalStateException();
        int sum = 0;
        for (int minute = 600 * month; minute < 600 * month + 600 && minute < now; minute++) {
            if (!isExcused(c, minute)) sum += 100 - LOSS[level(c, minute)];
        }
        return 100 * sum / number;
    }

    public int uptimeByMinutes(int c, int month) {
        return uptime(c, month);
    }

    public int worst() {
        int best = -1;
        for (int c = 0; c < comps.size(); c++) {
            int harm = LOSS[level(c, now)] * comps.get(c)[1];
            if (children(c).isEmpty() && harm > (best == -1 ? 0 : LOSS[level(best, now)] * comps.get(best)[1])) best = c;
        }
        if (best == -1) throw new NoSuchElementException();
        return best;
    }

    public int open() {
        int number = 0;
        for (int[] trouble : troubles) if (trouble[3] == -1) number++;
        return number;
    }

    public int nextIncident() {
        int best = -1;
        long rank = Long.MAX_VALUE;
        for (int i = 0; i < troubles.size(); i++) {
            int[] trouble = troubles.get(i);
            long its = ((3L - trouble[1]) * 100000 + trouble[2]) * 100 + i;
            if (trouble[3] == -1 && its < rank) {
                rank = its;
                best = i;
            }
        }
        if (best == -1) throw new NoSuchElementException();
        return best;
    }

    public int levelOf(int i) {
        incident(i);
        return troubles.get(i)[1];
    }

    public int startOf(int i) {
        incident(i);
        return troubles.get(i)[2];
    }

    public int endOf(int i) {
        incident(i);
        return troubles.get(i)[3];
    }

    public int caseOf(int i) {
        incident(i);
        return troubles.get(i)[4];
    }

    public int cases() {
        List<Integer> found = new ArrayList<>();
        for (int[] trouble : troubles) if (!found.contains(trouble[4])) found.add(trouble[4]);
        return found.size();
    }

    public int caseMinutes(int i) {
        incident(i);
        int number = 0;
        for (int minute = 0; minute < now; minute++) {
            boolean covered = false;
            for (int[] trouble : troubles) covered |= trouble[4] == troubles.get(i)[4] && covers(trouble, minute);
            if (covered) number++;
        }
        return number;
    }

    public int subscriptions(int p) {
        person(p);
        return wishes.get(p).size();
    }

    public int mails() {
        return sent.size();
    }

    public int mailsTo(int p) {
        person(p);
        int number = 0;
        for (int[] mail : sent) if (mail[0] == p) number++;
        return number;
    }

    private int[] mail(int m) {
        if (m < 0 || m >= sent.size()) throw new NoSuchElementException();
        return sent.get(m);
    }

    public int mailPerson(int m) {
        return mail(m)[0];
    }

    public int mailComponent(int m) {
        return mail(m)[1];
    }

    public char mailState(int m) {
        return "udpm".charAt(mail(m)[2]);
    }

    public int mailMinute(int m) {
        return mail(m)[3];
    }

    public float excusedShare(int c) {
        component(c);
        if (now == 0) throw new ArithmeticException();
        int number = 0;
        for (int minute = 0; minute < now; minute++) if (isExcused(c, minute)) number++;
        return (float) number / (float) now;
    }

    public double meanUptime(int month) {
        between(month, 0, 16);
        int sum = 0;
        int number = 0;
        for (int c = 0; c < comps.size(); c++) {
            if (counted(c, month) > 0) {
                sum += uptime(c, month);
                number++;
            }
        }
        if (number == 0) throw new ArithmeticException();
        return (double) sum / (double) number;
    }
}
