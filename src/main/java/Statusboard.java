import java.util.Arrays;
import java.util.NoSuchElementException;

/** A status page. The document's promises 1 to 48 say what each call answers, changes and throws. */
public final class Statusboard {
    private static final int MAX_COMPONENTS = 12;
    private static final int MAX_PEOPLE = 6;
    private static final int MAX_INCIDENTS = 20;
    private static final int MAX_MAINTENANCE = 8;
    private static final int MAX_WEIGHT = 9;
    private static final int MAX_LEVEL = 3;
    private static final int MAX_PASS = 600;
    private static final int MINUTES = 10000;
    private static final int MONTH = 600;
    private static final int LAST_MONTH = 16;
    private static final int NONE = -1;

    private final Tree tree;
    private final Persons persons;
    private final Incidents incidentTable;
    private final Maintenance maintenanceTable;
    private final Mails mailTable;
    private final Levels before;
    private final Levels now;
    private int present;

    public Statusboard() {
        tree = new Tree();
        persons = new Persons();
        incidentTable = new Incidents();
        maintenanceTable = new Maintenance();
        mailTable = new Mails();
        before = new Levels();
        now = new Levels();
        present = 0;
    }

    // ---- Calls that change the page ----

    public int addComponent(int parent, int weight, char rule) throws NoSuchElementException, IllegalArgumentException, UnsupportedOperationException, IllegalStateException {
        if (parent != NONE) {
            needComponent(parent);
        }
        needWeight(weight);
        if (rule != 'w' && rule != 's') {
            throw new IllegalArgumentException("the rule is neither w nor s");
        }
        if (parent != NONE && incidentTable.anyOf(parent)) {
            throw new UnsupportedOperationException("the parent has incidents");
        }
        if (tree.size >= MAX_COMPONENTS) {
            throw new IllegalStateException("there are 12 components");
        }
        return tree.add(parent, weight, rule);
    }

    public int setWeight(int component, int weight) throws NoSuchElementException, IllegalArgumentException {
        needComponent(component);
        needWeight(weight);
        int old = tree.weight[component];
        tree.weight[component] = weight;
        return old;
    }

    public int addPerson(int least) throws IllegalArgumentException, IllegalStateException {
        needLevel(least);
        if (persons.size >= MAX_PEOPLE) {
            throw new IllegalStateException("there are 6 people");
        }
        return persons.add(least);
    }

    public int subscribe(int person, int component) throws NoSuchElementException, IllegalStateException {
        needPerson(person);
        needComponent(component);
        if (persons.follows(person, component)) {
            throw new IllegalStateException("the person has subscribed to it");
        }
        persons.toggle(person, component);
        return persons.count(person);
    }

    public int unsubscribe(int person, int component) throws NoSuchElementException, IllegalStateException {
        needPerson(person);
        needComponent(component);
        if (!persons.follows(person, component)) {
            throw new IllegalStateException("the person has not subscribed to it");
        }
        persons.toggle(person, component);
        return persons.count(person);
    }

    public int report(int component, int level, int start) throws NoSuchElementException, IllegalArgumentException, UnsupportedOperationException, IllegalStateException {
        needComponent(component);
        needLevel(level);
        needMinute(start, 0, present);
        if (tree.hasChildren(component)) {
            throw new UnsupportedOperationException("the component is a group");
        }
        if (incidentTable.size >= MAX_INCIDENTS) {
            throw new IllegalStateException("there are 20 incidents");
        }
        before.find(tree, incidentTable, present);
        int incident = incidentTable.add(component, level, start);
        sendMails();
        return incident;
    }

    public int resolve(int incident, int end) throws NoSuchElementException, IllegalStateException, IllegalArgumentException {
        needIncident(incident);
        if (!incidentTable.isOpen(incident)) {
            throw new IllegalStateException("the incident is resolved");
        }
        int start = incidentTable.start[incident];
        needMinute(end, start, present);
        before.find(tree, incidentTable, present);
        incidentTable.end[incident] = end;
        sendMails();
        return end - start;
    }

    public int correct(int incident, int level, int start) throws NoSuchElementException, IllegalArgumentException {
        needIncident(incident);
        needLevel(level);
        needMinute(start, 0, incidentTable.isOpen(incident) ? present : incidentTable.end[incident]);
        before.find(tree, incidentTable, present);
        int old = incidentTable.level[incident];
        incidentTable.level[incident] = level;
        incidentTable.start[incident] = start;
        sendMails();
        return old;
    }

    public int withdraw(int incident) throws NoSuchElementException, IllegalStateException {
        needIncident(incident);
        int start = incidentTable.start[incident];
        if (incidentTable.end[incident] == start) {
            throw new IllegalStateException("the incident covers no minutes");
        }
        before.find(tree, incidentTable, present);
        incidentTable.end[incident] = start;
        sendMails();
        return incidentTable.countOpen();
    }

    public int join(int one, int other) throws NoSuchElementException, IllegalStateException {
        needIncident(one);
        needIncident(other);
        int oneCase = incidentTable.caseNumber[one];
        int otherCase = incidentTable.caseNumber[other];
        if (oneCase == otherCase) {
            throw new IllegalStateException("both incidents belong to the same case");
        }
        return incidentTable.merge(Math.min(oneCase, otherCase), Math.max(oneCase, otherCase));
    }

    public int maintain(int component, int from, int to) throws NoSuchElementException, IllegalArgumentException, IllegalStateException {
        needComponent(component);
        needMinute(from, present, MINUTES - 1);
        if (to <= from || to > MINUTES) {
            throw new IllegalArgumentException("the minute behind the last one is out of range");
        }
        if (maintenanceTable.size >= MAX_MAINTENANCE) {
            throw new IllegalStateException("there are 8 times of maintenance");
        }
        return maintenanceTable.add(component, from, to);
    }

    public int callOff(int maintenance) throws NoSuchElementException, IllegalStateException {
        if (maintenance < 0 || maintenance >= maintenanceTable.size) {
            throw new NoSuchElementException("no such maintenance");
        }
        int from = maintenanceTable.from[maintenance];
        int length = maintenanceTable.to[maintenance] - from;
        if (from < present || length == 0) {
            throw new IllegalStateException("the maintenance has begun or has no minutes");
        }
        maintenanceTable.to[maintenance] = from;
        return length;
    }

    public int pass(int minutes) throws IllegalArgumentException, IllegalStateException {
        if (minutes < 1 || minutes > MAX_PASS) {
            throw new IllegalArgumentException("the number of minutes is out of range");
        }
        if (present + minutes >= MINUTES) {
            throw new IllegalStateException("the present minute would be greater than 9999");
        }
        present += minutes;
        return present;
    }

    // ---- Components ----

    public int components() {
        return tree.size;
    }

    public int people() {
        return persons.size;
    }

    public int incidents() {
        return incidentTable.size;
    }

    public int minute() {
        return present;
    }

    public boolean isGroup(int component) throws NoSuchElementException {
        needComponent(component);
        return tree.hasChildren(component);
    }

    public int depth(int component) throws NoSuchElementException {
        needComponent(component);
        return tree.countAbove(component);
    }

    public int leaves(int component) throws NoSuchElementException {
        needComponent(component);
        return tree.countLeaves(component);
    }

    public int belowAt(int component, int index) throws NoSuchElementException, IndexOutOfBoundsException {
        needComponent(component);
        if (index < 0 || index >= tree.countWithin(component)) {
            throw new IndexOutOfBoundsException("no such index below the component");
        }
        return tree.withinAt(component, index);
    }

    public int pathAt(int component, int index) throws NoSuchElementException, IndexOutOfBoundsException {
        needComponent(component);
        if (index < 0 || index > tree.countAbove(component)) {
            throw new IndexOutOfBoundsException("no such index on the path");
        }
        return tree.onPath(component, index);
    }

    // ---- States ----

    public char state(int component) throws NoSuchElementException {
        needComponent(component);
        now.find(tree, incidentTable, present);
        return signOf(now.level[component]);
    }

    public char stateAt(int component, int minute) throws NoSuchElementException, IllegalArgumentException {
        needComponent(component);
        needMinute(minute, 0, present);
        now.find(tree, incidentTable, minute);
        return signOf(now.level[component]);
    }

    public boolean isExcused(int component, int minute) throws NoSuchElementException, IllegalArgumentException {
        needComponent(component);
        needMinute(minute, 0, MINUTES - 1);
        return maintenanceTable.excuses(tree.path[component], minute);
    }

    public int weightedLoss(int component) throws NoSuchElementException, UnsupportedOperationException {
        needComponent(component);
        if (!tree.hasChildren(component)) {
            throw new UnsupportedOperationException("the component is a leaf");
        }
        now.find(tree, incidentTable, present);
        return now.meanLoss(component);
    }

    public int worst() throws NoSuchElementException {
        now.find(tree, incidentTable, present);
        int leaf = now.worstLeaf(tree);
        if (leaf == NONE) {
            throw new NoSuchElementException("no leaf is down");
        }
        return leaf;
    }

    // ---- Uptime ----

    public int counted(int component, int month) throws NoSuchElementException, IllegalArgumentException {
        needComponent(component);
        needMonth(month);
        int from = month * MONTH;
        int to = Math.min(from + MONTH, present);
        return to <= from ? 0 : to - from - maintenanceTable.excusedMinutes(tree.path[component], from, to);
    }

    public int uptime(int component, int month) throws NoSuchElementException, IllegalArgumentException, IllegalStateException {
        needComponent(component);
        needMonth(month);
        int share = shareByChanges(component, month);
        if (share == NONE) {
            throw new IllegalStateException("there are no counted minutes");
        }
        return share;
    }

    public int uptimeByMinutes(int component, int month) throws NoSuchElementException, IllegalArgumentException, IllegalStateException {
        needComponent(component);
        needMonth(month);
        int share = shareByMinutes(component, month);
        if (share == NONE) {
            throw new IllegalStateException("there are no counted minutes");
        }
        return share;
    }

    public float excusedShare(int component) throws NoSuchElementException, ArithmeticException {
        needComponent(component);
        if (present == 0) {
            throw new ArithmeticException("there are no past minutes");
        }
        int excused = maintenanceTable.excusedMinutes(tree.path[component], 0, present);
        return (float) excused / (float) present;
    }

    public double meanUptime(int month) throws IllegalArgumentException, ArithmeticException {
        needMonth(month);
        int sum = 0;
        int number = 0;
        for (int component = 0; component < tree.size; component++) {
            int share = shareByChanges(component, month);
            if (share != NONE) {
                sum += share;
                number++;
            }
        }
        if (number == 0) {
            throw new ArithmeticException("no component has counted minutes");
        }
        return (double) sum / (double) number;
    }

    // ---- Incidents and cases ----

    public int open() {
        return incidentTable.countOpen();
    }

    public int nextIncident() throws NoSuchElementException {
        int incident = incidentTable.mostUrgent();
        if (incident == NONE) {
            throw new NoSuchElementException("no incident is open");
        }
        return incident;
    }

    public int levelOf(int incident) throws NoSuchElementException {
        needIncident(incident);
        return incidentTable.level[incident];
    }

    public int startOf(int incident) throws NoSuchElementException {
        needIncident(incident);
        return incidentTable.start[incident];
    }

    public int endOf(int incident) throws NoSuchElementException {
        needIncident(incident);
        return incidentTable.end[incident];
    }

    public int caseOf(int incident) throws NoSuchElementException {
        needIncident(incident);
        return incidentTable.caseNumber[incident];
    }

    public int cases() {
        return incidentTable.countCases();
    }

    public int caseMinutes(int incident) throws NoSuchElementException {
        needIncident(incident);
        return incidentTable.coveredMinutes(incidentTable.caseNumber[incident], present);
    }

    // ---- Subscribers and mails ----

    public int subscriptions(int person) throws NoSuchElementException {
        needPerson(person);
        return persons.count(person);
    }

    public int mails() {
        return mailTable.size;
    }

    public int mailsTo(int person) throws NoSuchElementException {
        needPerson(person);
        return mailTable.countTo(person);
    }

    public int mailPerson(int mail) throws NoSuchElementException {
        needMail(mail);
        return mailTable.fact(mail, Mails.PERSON);
    }

    public int mailComponent(int mail) throws NoSuchElementException {
        needMail(mail);
        return mailTable.fact(mail, Mails.COMPONENT);
    }

    public char mailState(int mail) throws NoSuchElementException {
        needMail(mail);
        return signOf(mailTable.fact(mail, Mails.LEVEL));
    }

    public int mailMinute(int mail) throws NoSuchElementException {
        needMail(mail);
        return mailTable.fact(mail, Mails.MINUTE);
    }

    // ---- Tests of arguments ----

    private void needComponent(int component) {
        if (component < 0 || component >= tree.size) {
            throw new NoSuchElementException("no such component");
        }
    }

    private void needPerson(int person) {
        if (person < 0 || person >= persons.size) {
            throw new NoSuchElementException("no such person");
        }
    }

    private void needIncident(int incident) {
        if (incident < 0 || incident >= incidentTable.size) {
            throw new NoSuchElementException("no such incident");
        }
    }

    private void needMail(int mail) {
        if (mail < 0 || mail >= mailTable.size) {
            throw new NoSuchElementException("no such mail");
        }
    }

    private static void needWeight(int weight) {
        if (weight < 1 || weight > MAX_WEIGHT) {
            throw new IllegalArgumentException("the weight is out of range");
        }
    }

    private static void needLevel(int level) {
        if (level < 1 || level > MAX_LEVEL) {
            throw new IllegalArgumentException("the level is out of range");
        }
    }

    private static void needMinute(int minute, int first, int last) {
        if (minute < first || minute > last) {
            throw new IllegalArgumentException("the minute is out of range");
        }
    }

    private static void needMonth(int month) {
        if (month < 0 || month > LAST_MONTH) {
            throw new IllegalArgumentException("the month is out of range");
        }
    }

    // ---- Levels, losses and signs ----

    private static char signOf(int level) {
        switch (level) {
            case 0:
                return 'u';
            case 1:
                return 'd';
            case 2:
                return 'p';
            default:
                return 'm';
        }
    }

    private static int lossOf(int level) {
        switch (level) {
            case 0:
                return 0;
            case 1:
                return 25;
            case 2:
                return 50;
            default:
                return 100;
        }
    }

    private static int levelOfMeanLoss(int loss) {
        if (loss <= 0) {
            return 0;
        }
        if (loss <= 33) {
            return 1;
        }
        return loss <= 66 ? 2 : 3;
    }

    // The nearer one of two minutes behind a minute, for walks from change to change.
    private static int nearer(int at, int next, int change) {
        return change > at && change < next ? change : next;
    }

    // ---- Mails of a change, and shares of a month ----

    // The levels before the call stand in 'before' already.
    private void sendMails() {
        now.find(tree, incidentTable, present);
        for (int person = 0; person < persons.size; person++) {
            int component = subjectFor(person);
            if (component != NONE) {
                mailTable.add(person, component, now.level[component], present);
            }
        }
    }

    private int subjectFor(int person) {
        int subject = NONE;
        for (int component = 0; component < tree.size; component++) {
            // not less: of several at one depth the lowest number stays
            if (concerns(person, component) && (subject == NONE || tree.countAbove(component) < tree.countAbove(subject))) {
                subject = component;
            }
        }
        return subject;
    }

    private boolean concerns(int person, int component) {
        int old = before.level[component];
        int level = now.level[component];
        return old != level
            && Math.max(old, level) >= persons.least[person]
            && persons.follows(person, component)
            && !maintenanceTable.excuses(tree.path[component], present);
    }

    private int shareByChanges(int component, int month) {
        int at = month * MONTH;
        int to = Math.min(at + MONTH, present);
        int sum = 0;
        int number = 0;
        // a span has at least one minute, so there are no more spans than minutes
        for (int span = 0; span < MONTH && at < to; span++) {
            int next = incidentTable.nextChange(at, maintenanceTable.nextChange(at, to));
            if (!maintenanceTable.excuses(tree.path[component], at)) {
                now.find(tree, incidentTable, at);
                sum += (100 - lossOf(now.level[component])) * (next - at);
                number += next - at;
            }
            at = next;
        }
        return number == 0 ? NONE : sum * 100 / number;
    }

    private int shareByMinutes(int component, int month) {
        int from = month * MONTH;
        int to = Math.min(from + MONTH, present);
        int sum = 0;
        int number = 0;
        for (int minute = from; minute < to; minute++) {
            if (!maintenanceTable.excuses(tree.path[component], minute)) {
                now.find(tree, incidentTable, minute);
                sum += 100 - lossOf(now.level[component]);
                number++;
            }
        }
        return number == 0 ? NONE : sum * 100 / number;
    }

    /** The components. Sets of them are bits of an int, bit c for the component c. */
    private static final class Tree {
        int size;
        final int[] parent = new int[MAX_COMPONENTS];
        final int[] weight = new int[MAX_COMPONENTS];
        final char[] rule = new char[MAX_COMPONENTS];
        // the component and all that it is below
        final int[] path = new int[MAX_COMPONENTS];
        // the component and all that are below it
        final int[] within = new int[MAX_COMPONENTS];

        int add(int above, int weightOfIt, char ruleOfIt) {
            int component = size;
            int bit = 1 << component;
            parent[component] = above;
            weight[component] = weightOfIt;
            rule[component] = ruleOfIt;
            path[component] = above == NONE ? bit : path[above] | bit;
            for (int other = 0; other <= component; other++) {
                if (holds(path[component], other)) {
                    within[other] |= bit;
                }
            }
            size++;
            return component;
        }

        static boolean holds(int set, int component) {
            return (set >> component & 1) == 1;
        }

        int countAbove(int component) {
            return Integer.bitCount(path[component]) - 1;
        }

        int countWithin(int component) {
            return Integer.bitCount(within[component]);
        }

        boolean hasChildren(int component) {
            return countWithin(component) > 1;
        }

        int countLeaves(int component) {
            int number = 0;
            for (int other = component; other < size; other++) {
                if (holds(within[component], other) && !hasChildren(other)) {
                    number++;
                }
            }
            return number;
        }

        // A child has a greater number than its parent, so one walk up the numbers goes down the tree.
        int withinAt(int component, int index) {
            int at = component;
            int left = index;
            for (int other = component + 1; other < size && left > 0; other++) {
                if (parent[other] == at) {
                    int number = countWithin(other);
                    if (left <= number) {
                        at = other;
                        left--;
                    } else {
                        left -= number;
                    }
                }
            }
            return at;
        }

        // For the same reason the numbers of a path rise from its first component on.
        int onPath(int component, int index) {
            int left = index;
            for (int other = 0; other < component; other++) {
                if (holds(path[component], other)) {
                    if (left == 0) {
                        return other;
                    }
                    left--;
                }
            }
            return component;
        }
    }

    /** The levels of all components in one minute. */
    private static final class Levels {
        final int[] level = new int[MAX_COMPONENTS];
        final int[] greatest = new int[MAX_COMPONENTS];
        final int[] losses = new int[MAX_COMPONENTS];
        final int[] weights = new int[MAX_COMPONENTS];

        void find(Tree tree, Incidents incidents, int minute) {
            clear();
            for (int incident = 0; incident < incidents.size; incident++) {
                if (incidents.covers(incident, minute)) {
                    int leaf = incidents.component[incident];
                    level[leaf] = Math.max(level[leaf], incidents.level[incident]);
                }
            }
            // children have greater numbers, so each one is known ahead of its parent
            for (int component = tree.size - 1; component >= 0; component--) {
                if (tree.hasChildren(component)) {
                    level[component] = tree.rule[component] == 'w' ? greatest[component] : levelOfMeanLoss(meanLoss(component));
                }
                if (tree.parent[component] != NONE) {
                    passUp(component, tree.parent[component], tree.weight[component]);
                }
            }
        }

        private void clear() {
            Arrays.fill(level, 0);
            Arrays.fill(greatest, 0);
            Arrays.fill(losses, 0);
            Arrays.fill(weights, 0);
        }

        private void passUp(int component, int parent, int weight) {
            greatest[parent] = Math.max(greatest[parent], level[component]);
            losses[parent] += lossOf(level[component]) * weight;
            weights[parent] += weight;
        }

        int meanLoss(int component) {
            return weights[component] == 0 ? 0 : losses[component] / weights[component];
        }

        int worstLeaf(Tree tree) {
            int leaf = NONE;
            int most = 0;
            for (int component = 0; component < tree.size; component++) {
                int harm = lossOf(level[component]) * tree.weight[component];
                if (harm > most && !tree.hasChildren(component)) {
                    leaf = component;
                    most = harm;
                }
            }
            return leaf;
        }
    }

    /** The people and the sets of components to which they have subscribed. */
    private static final class Persons {
        int size;
        final int[] least = new int[MAX_PEOPLE];
        final int[] followed = new int[MAX_PEOPLE];

        int add(int leastLevel) {
            int person = size;
            least[person] = leastLevel;
            followed[person] = 0;
            size++;
            return person;
        }

        boolean follows(int person, int component) {
            return Tree.holds(followed[person], component);
        }

        void toggle(int person, int component) {
            followed[person] ^= 1 << component;
        }

        int count(int person) {
            return Integer.bitCount(followed[person]);
        }
    }

    /** The incidents; the end of an open one is NONE. */
    private static final class Incidents {
        int size;
        final int[] component = new int[MAX_INCIDENTS];
        final int[] level = new int[MAX_INCIDENTS];
        final int[] start = new int[MAX_INCIDENTS];
        final int[] end = new int[MAX_INCIDENTS];
        final int[] caseNumber = new int[MAX_INCIDENTS];

        int add(int leaf, int levelOfIt, int startOfIt) {
            int incident = size;
            component[incident] = leaf;
            level[incident] = levelOfIt;
            start[incident] = startOfIt;
            end[incident] = NONE;
            caseNumber[incident] = incident;
            size++;
            return incident;
        }

        boolean isOpen(int incident) {
            return end[incident] == NONE;
        }

        boolean covers(int incident, int minute) {
            return start[incident] <= minute && (isOpen(incident) || minute < end[incident]);
        }

        boolean anyOf(int leaf) {
            for (int incident = 0; incident < size; incident++) {
                if (component[incident] == leaf) {
                    return true;
                }
            }
            return false;
        }

        int countOpen() {
            int number = 0;
            for (int incident = 0; incident < size; incident++) {
                if (isOpen(incident)) {
                    number++;
                }
            }
            return number;
        }

        int mostUrgent() {
            int first = NONE;
            for (int incident = 0; incident < size; incident++) {
                if (isOpen(incident) && (first == NONE || isMoreUrgent(incident, first))) {
                    first = incident;
                }
            }
            return first;
        }

        private boolean isMoreUrgent(int incident, int other) {
            if (level[incident] != level[other]) {
                return level[incident] > level[other];
            }
            return start[incident] < start[other];
        }

        int countCases() {
            int number = 0;
            for (int incident = 0; incident < size; incident++) {
                if (caseNumber[incident] == incident) {
                    number++;
                }
            }
            return number;
        }

        int merge(int kept, int dropped) {
            int number = 0;
            for (int incident = 0; incident < size; incident++) {
                if (caseNumber[incident] == dropped) {
                    caseNumber[incident] = kept;
                }
                if (caseNumber[incident] == kept) {
                    number++;
                }
            }
            return number;
        }

        int nextChange(int at, int bound) {
            int next = bound;
            for (int incident = 0; incident < size; incident++) {
                next = nearer(at, next, start[incident]);
                next = nearer(at, next, end[incident]);
            }
            return next;
        }

        int coveredMinutes(int caseOfThem, int to) {
            int number = 0;
            int at = 0;
            for (int span = 0; span < MINUTES && at < to; span++) {
                int next = nextChange(at, to);
                if (caseCovers(caseOfThem, at)) {
                    number += next - at;
                }
                at = next;
            }
            return number;
        }

        private boolean caseCovers(int caseOfThem, int minute) {
            for (int incident = 0; incident < size; incident++) {
                if (caseNumber[incident] == caseOfThem && covers(incident, minute)) {
                    return true;
                }
            }
            return false;
        }
    }

    /** The times of maintenance; one that is called off ends where it begins. */
    private static final class Maintenance {
        int size;
        final int[] component = new int[MAX_MAINTENANCE];
        final int[] from = new int[MAX_MAINTENANCE];
        final int[] to = new int[MAX_MAINTENANCE];

        int add(int componentOfIt, int first, int behind) {
            int maintenance = size;
            component[maintenance] = componentOfIt;
            from[maintenance] = first;
            to[maintenance] = behind;
            size++;
            return maintenance;
        }

        boolean excuses(int path, int minute) {
            for (int maintenance = 0; maintenance < size; maintenance++) {
                if (from[maintenance] <= minute && minute < to[maintenance] && Tree.holds(path, component[maintenance])) {
                    return true;
                }
            }
            return false;
        }

        int nextChange(int at, int bound) {
            int next = bound;
            for (int maintenance = 0; maintenance < size; maintenance++) {
                next = nearer(at, next, from[maintenance]);
                next = nearer(at, next, to[maintenance]);
            }
            return next;
        }

        int excusedMinutes(int path, int first, int behind) {
            int number = 0;
            int at = first;
            for (int span = 0; span < MINUTES && at < behind; span++) {
                int next = nextChange(at, behind);
                if (excuses(path, at)) {
                    number += next - at;
                }
                at = next;
            }
            return number;
        }
    }

    /** The mails, with the facts of each one behind one another in one row. */
    private static final class Mails {
        static final int PERSON = 0;
        static final int COMPONENT = 1;
        static final int LEVEL = 2;
        static final int MINUTE = 3;
        static final int FACTS = 4;
        static final int FIRST_ROOM = 16;
        // each of 512 calls tells each person once at most
        static final int MAX_MAILS = 512 * MAX_PEOPLE;

        int size;
        private int[] facts = new int[FIRST_ROOM * FACTS];

        void add(int person, int component, int level, int minute) {
            if (size >= MAX_MAILS) {
                return;
            }
            int at = size * FACTS;
            if (at >= facts.length) {
                facts = Arrays.copyOf(facts, 2 * facts.length);
            }
            facts[at + PERSON] = person;
            facts[at + COMPONENT] = component;
            facts[at + LEVEL] = level;
            facts[at + MINUTE] = minute;
            size++;
        }

        int fact(int mail, int kind) {
            return facts[mail * FACTS + kind];
        }

        int countTo(int person) {
            int number = 0;
            for (int mail = 0; mail < size; mail++) {
                if (fact(mail, PERSON) == person) {
                    number++;
                }
            }
            return number;
        }
    }
}
