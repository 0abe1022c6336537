/** A book of hours: projects, rules for what an hour costs, entries, and the bills for them. */
public final class Hourbook {
    private static final int MAX_PROJECTS = 6;
    private static final int MAX_RULES = 10;
    private static final int MAX_ENTRIES = 60;
    private static final int MAX_BILLS = 20;
    private static final int PEOPLE = 6;
    private static final int KINDS = 4;
    private static final int MAX_LINES = PEOPLE * KINDS;
    private static final int LAST_DAY = 364;
    private static final int DAY_END = 1440;
    private static final int MAX_BUDGET = 10000000;
    private static final int MAX_FIX = 50000;
    private static final int MIN_PLUS = -90;
    private static final int MAX_PLUS = 200;
    private static final int MAX_RATE = 500000;
    private static final int ALL = -1;
    /** As a set of rules: it has every one of its bits. */
    private static final int ALL_RULES = -1;
    private static final int NO_BILL = -1;

    private final Project[] projects = new Project[MAX_PROJECTS];
    private final RuleBook rules = new RuleBook();
    private final Entry[] entries = new Entry[MAX_ENTRIES];
    private final Turns turns = new Turns();
    private final Bill[] bills = new Bill[MAX_BILLS];
    private int projectCount;
    private int entryCount;
    private int billCount;

    public Hourbook() {
    }

    // ---- projects and rules

    public int project(int budget, boolean isHard) throws IllegalArgumentException, IllegalStateException {
        if (!isBudget(budget)) {
            throw new IllegalArgumentException("no such budget");
        }
        if (projectCount >= projects.length) {
            throw new IllegalStateException("too many projects");
        }
        projects[projectCount] = new Project(projectCount, budget, isHard);
        projectCount++;
        return projectCount - 1;
    }

    public int setBudget(int project, int budget, boolean isHard)
            throws IndexOutOfBoundsException, IllegalArgumentException {
        Project p = projectAt(project);
        if (p == null) {
            throw new IndexOutOfBoundsException("no such project");
        }
        if (!isBudget(budget)) {
            throw new IllegalArgumentException("no such budget");
        }
        int before = p.budget;
        p.budget = budget;
        p.isHard = isHard;
        return before;
    }

    public int setStep(int project, int step, int way) throws IndexOutOfBoundsException, IllegalArgumentException {
        Project p = projectAt(project);
        if (p == null) {
            throw new IndexOutOfBoundsException("no such project");
        }
        if (!isStep(step) || !isWithin(way, Project.NEAREST, Project.DOWN)) {
            throw new IllegalArgumentException("no such step or way");
        }
        int before = p.step;
        p.step = step;
        p.way = way;
        return before;
    }

    public int setTerms(int project, int discount, int tax)
            throws IndexOutOfBoundsException, IllegalArgumentException {
        Project p = projectAt(project);
        if (p == null) {
            throw new IndexOutOfBoundsException("no such project");
        }
        if (!isWithin(discount, 0, 100) || !isWithin(tax, 0, 100)) {
            throw new IllegalArgumentException("no such percents");
        }
        int before = p.discount;
        p.discount = discount;
        p.tax = tax;
        return before;
    }

    public int rule(boolean isFix, int n) throws IllegalArgumentException, IllegalStateException {
        if (!isEffect(isFix, n)) {
            throw new IllegalArgumentException("no such rate or percents");
        }
        int number = rules.add(isFix, n);
        if (number < 0) {
            throw new IllegalStateException("too many rules");
        }
        return number;
    }

    public int aim(int rule, int person, int project, int kind)
            throws IndexOutOfBoundsException, IllegalArgumentException {
        Rule r = rules.at(rule);
        if (r == null) {
            throw new IndexOutOfBoundsException("no such rule");
        }
        if (!isWithin(person, ALL, PEOPLE - 1) || !isWithin(project, ALL, MAX_PROJECTS - 1)
                || !isWithin(kind, ALL, KINDS - 1)) {
            throw new IllegalArgumentException("no such aim");
        }
        r.person = person;
        r.project = project;
        r.kind = kind;
        return rule;
    }

    public int time(int rule, int firstDay, int lastDay, int which, int from, int to)
            throws IndexOutOfBoundsException, IllegalArgumentException {
        Rule r = rules.at(rule);
        if (r == null) {
            throw new IndexOutOfBoundsException("no such rule");
        }
        if (!isDay(firstDay) || !isWithin(lastDay, firstDay, LAST_DAY)
                || !isWithin(which, Rule.ANY_DAY, Rule.REST_ONLY) || !areMinutes(from, to)) {
            throw new IllegalArgumentException("no such time");
        }
        r.firstDay = firstDay;
        r.lastDay = lastDay;
        r.which = which;
        r.from = from;
        r.to = to;
        return rule;
    }

    public int dropRule(int rule) throws IndexOutOfBoundsException {
        if (rules.at(rule) == null) {
            throw new IndexOutOfBoundsException("no such rule");
        }
        rules.drop(rule);
        return rules.count;
    }

    // ---- entries

    public int entry(int person, int project, int kind, int day, int from, int to)
            throws IndexOutOfBoundsException, IllegalArgumentException, IllegalStateException {
        Project p = projectAt(project);
        if (p == null) {
            throw new IndexOutOfBoundsException("no such project");
        }
        if (!isPerson(person) || !isWithin(kind, 0, KINDS - 1) || !isDay(day) || !areMinutes(from, to)) {
            throw new IllegalArgumentException("no such entry");
        }
        if (entryCount >= entries.length || isTaken(person, day, from, to, null)) {
            throw new IllegalStateException("too many entries, or the minutes are taken");
        }
        Entry e = new Entry(person, p, kind, day);
        e.from = from;
        e.to = to;
        entries[entryCount] = e;
        entryCount++;
        return entryCount - 1;
    }

    public int change(int entry, int from, int to)
            throws IndexOutOfBoundsException, IllegalArgumentException, IllegalStateException {
        Entry e = entryAt(entry);
        if (e == null) {
            throw new IndexOutOfBoundsException("no such entry");
        }
        if (!areMinutes(from, to)) {
            throw new IllegalArgumentException("no such minutes");
        }
        if (isTaken(e.person, e.day, from, to, e)) {
            throw new IllegalStateException("the minutes are taken");
        }
        e.from = from;
        e.to = to;
        if (!e.isBilled()) {
            return 0;
        }
        int before = e.charge;
        e.charge = amountOf(e, ALL_RULES);
        e.await(e.charge - before);
        return e.charge - before;
    }

    public int take(int entry) throws IndexOutOfBoundsException, IllegalStateException {
        Entry e = entryAt(entry);
        if (e == null) {
            throw new IndexOutOfBoundsException("no such entry");
        }
        if (e.isBilled()) {
            throw new IllegalStateException("the entry is billed");
        }
        e.isGone = true;
        return entriesLeft();
    }

    public int many(int what) throws IllegalArgumentException {
        if (!isWithin(what, 0, 3)) {
            throw new IllegalArgumentException("no such count");
        }
        return countOf(what);
    }

    public int ofEntry(int entry, int what) throws IndexOutOfBoundsException, IllegalArgumentException {
        Entry e = entryAt(entry);
        if (e == null) {
            throw new IndexOutOfBoundsException("no such entry");
        }
        if (!isWithin(what, 0, 10)) {
            throw new IllegalArgumentException("no such fact of an entry");
        }
        settle(e.project);
        return e.fact(what);
    }

    public int rate(int entry, int minute) throws IndexOutOfBoundsException, IllegalArgumentException {
        Entry e = entryAt(entry);
        if (e == null) {
            throw new IndexOutOfBoundsException("no such entry");
        }
        if (!e.hasMinute(minute)) {
            throw new IllegalArgumentException("not a minute of the entry");
        }
        return rules.rateOf(reasonsAt(e, minute));
    }

    public int why(int entry, int minute) throws IndexOutOfBoundsException, IllegalArgumentException {
        Entry e = entryAt(entry);
        if (e == null) {
            throw new IndexOutOfBoundsException("no such entry");
        }
        if (!e.hasMinute(minute)) {
            throw new IllegalArgumentException("not a minute of the entry");
        }
        return reasonsAt(e, minute);
    }

    // ---- how much

    public int ofProject(int project, int what) throws IndexOutOfBoundsException, IllegalArgumentException {
        Project p = projectAt(project);
        if (p == null) {
            throw new IndexOutOfBoundsException("no such project");
        }
        if (!isWithin(what, 0, 5)) {
            throw new IllegalArgumentException("no such fact of a project");
        }
        settle(p);
        return factOfProject(p, what);
    }

    public int worked(int person, int firstDay, int lastDay) throws IllegalArgumentException {
        if (!isPerson(person) || !isDay(firstDay) || !isDay(lastDay)) {
            throw new IllegalArgumentException("no such person or day");
        }
        int sum = 0;
        for (Entry e : entries) {
            if (e != null && !e.isGone && e.person == person && isWithin(e.day, firstDay, lastDay)) {
                sum += e.length();
            }
        }
        return sum;
    }

    // ---- bills

    public int bill(int project, int lastDay)
            throws IndexOutOfBoundsException, IllegalArgumentException, IllegalStateException {
        Project p = projectAt(project);
        if (p == null) {
            throw new IndexOutOfBoundsException("no such project");
        }
        if (!isDay(lastDay)) {
            throw new IllegalArgumentException("no such day");
        }
        if (billCount >= bills.length || !isBillable(p, lastDay)) {
            throw new IllegalStateException("too many bills, or nothing to bill");
        }
        settle(p);
        bills[billCount] = makeBill(p, lastDay, billCount);
        billCount++;
        return billCount - 1;
    }

    public int takeBack(int bill) throws IndexOutOfBoundsException, IllegalStateException {
        Bill b = billAt(bill);
        if (b == null) {
            throw new IndexOutOfBoundsException("no such bill");
        }
        if (b != lastBillOf(b.project)) {
            throw new IllegalStateException("not the last bill of its project");
        }
        int freed = 0;
        for (int k = 0; k < entries.length; k++) {
            Entry e = entries[k];
            if (e != null && b.hasCorrectionOf(k)) {
                e.await(b.correctionOf(k));
            }
            if (e != null && e.bill == bill) {
                e.bill = NO_BILL;
                e.dropCorrection();
                freed++;
            }
        }
        b.empty();
        return freed;
    }

    public int ofBill(int bill, int what) throws IndexOutOfBoundsException, IllegalArgumentException {
        Bill b = billAt(bill);
        if (b == null) {
            throw new IndexOutOfBoundsException("no such bill");
        }
        if (!isWithin(what, 0, 7)) {
            throw new IllegalArgumentException("no such fact of a bill");
        }
        return b.fact(what);
    }

    public int line(int bill, int line, int what) throws IndexOutOfBoundsException, IllegalArgumentException {
        Bill b = billAt(bill);
        if (b == null || !isWithin(line, 0, b.lineCount() - 1)) {
            throw new IndexOutOfBoundsException("no such bill or line");
        }
        if (!isWithin(what, 0, 3)) {
            throw new IllegalArgumentException("no such fact of a line");
        }
        return b.factOfLine(line, what);
    }

    // ---- what would be (nothing is changed)

    public int wouldBill(int project, int lastDay) throws IndexOutOfBoundsException, IllegalArgumentException {
        Project p = projectAt(project);
        if (p == null) {
            throw new IndexOutOfBoundsException("no such project");
        }
        if (!isDay(lastDay)) {
            throw new IllegalArgumentException("no such day");
        }
        settle(p);
        // A bill that would be refused has nothing to sum up, and so the total 0 that is due.
        int net = 0;
        for (Entry e : entries) {
            if (e != null && e.isBillable(p, lastDay)) {
                net += e.charge;
            }
            if (e != null && e.isCorrected && e.project == p) {
                net += e.correction;
            }
        }
        int less = p.lessOf(net);
        return net - less + p.taxOf(net - less);
    }

    public int without(int rule) throws IndexOutOfBoundsException {
        if (rules.at(rule) == null) {
            throw new IndexOutOfBoundsException("no such rule");
        }
        return gainWithout(rule);
    }

    public int amountsWith(int rule, int n) throws IndexOutOfBoundsException, IllegalArgumentException {
        Rule r = rules.at(rule);
        if (r == null) {
            throw new IndexOutOfBoundsException("no such rule");
        }
        if (!isEffect(r.isFix, n)) {
            throw new IllegalArgumentException("no such rate or percents");
        }
        int before = r.n;
        r.n = n;
        int sum = sumOfAmounts(ALL_RULES);
        r.n = before;
        return sum;
    }

    public int overOn(int project) throws IndexOutOfBoundsException {
        Project p = projectAt(project);
        if (p == null) {
            throw new IndexOutOfBoundsException("no such project");
        }
        settle(p);
        return firstOverOf(p);
    }

    public double meanRate() {
        int lengths = 0;
        for (Entry e : entries) {
            if (e != null && !e.isGone) {
                lengths += e.length();
            }
        }
        if (lengths == 0) {
            return 0;
        }
        return (double) (60L * sumOfAmounts(ALL_RULES)) / (double) lengths;
    }

    public long digest() {
        long d = 58079;
        for (int what = 0; what <= 3; what++) {
            d = mix(d, countOf(what));
        }
        d = mixProjects(d);
        for (int k = 0; k < rules.count; k++) {
            d = mix(d, gainWithout(k));
        }
        d = mixEntries(d);
        return mixBills(d);
    }

    // ---- checks

    private static boolean isWithin(int x, int first, int last) {
        return x >= first && x <= last;
    }

    private static boolean isBudget(int cents) {
        return isWithin(cents, 0, MAX_BUDGET);
    }

    private static boolean isStep(int minutes) {
        return minutes == 1 || minutes == 5 || minutes == 6 || minutes == 10 || minutes == 15 || minutes == 30;
    }

    private static boolean isEffect(boolean isFix, int n) {
        return isFix ? isWithin(n, 0, MAX_FIX) : isWithin(n, MIN_PLUS, MAX_PLUS);
    }

    private static boolean isPerson(int person) {
        return isWithin(person, 0, PEOPLE - 1);
    }

    private static boolean isDay(int day) {
        return isWithin(day, 0, LAST_DAY);
    }

    private static boolean areMinutes(int from, int to) {
        return from >= 0 && from < to && to <= DAY_END;
    }

    private Project projectAt(int number) {
        return isWithin(number, 0, projects.length - 1) ? projects[number] : null;
    }

    private Entry entryAt(int number) {
        Entry e = isWithin(number, 0, entries.length - 1) ? entries[number] : null;
        return e == null || e.isGone ? null : e;
    }

    private Bill billAt(int number) {
        return isWithin(number, 0, bills.length - 1) ? bills[number] : null;
    }

    private boolean isTaken(int person, int day, int from, int to, Entry but) {
        for (Entry e : entries) {
            if (e != null && e != but && e.meets(person, day, from, to)) {
                return true;
            }
        }
        return false;
    }

    private boolean isBillable(Project p, int lastDay) {
        for (Entry e : entries) {
            if (e != null && (e.isBillable(p, lastDay) || e.isCorrected && e.project == p)) {
                return true;
            }
        }
        return false;
    }

    // ---- sums

    private int countOf(int what) {
        switch (what) {
            case 0: return projectCount;
            case 1: return rules.count;
            case 2: return entriesLeft();
            default: return billCount;
        }
    }

    private int entriesLeft() {
        int left = 0;
        for (Entry e : entries) {
            if (e != null && !e.isGone) {
                left++;
            }
        }
        return left;
    }

    private int reasonsAt(Entry e, int minute) {
        return rules.reasonsAt(rules.meeting(e), minute);
    }

    /** The greater one of two that are as near, also below 0; divisor is above 0. */
    private static long nearest(long n, long divisor) {
        return divisor > 0 ? Math.floorDiv(2 * n + divisor, 2 * divisor) : 0;
    }

    private int amountOf(Entry e, int allowed) {
        long rates = rules.sumOfRates(e, rules.meeting(e) & allowed);
        return (int) nearest(rates * e.rounded(), 60L * e.length());
    }

    private int sumOfAmounts(int allowed) {
        int sum = 0;
        for (Entry e : entries) {
            if (e != null && !e.isGone) {
                sum += amountOf(e, allowed);
            }
        }
        return sum;
    }

    private int gainWithout(int rule) {
        return sumOfAmounts(~(1 << rule)) - sumOfAmounts(ALL_RULES);
    }

    /** Charges that are not billed hang on all that came before, so they are made anew for each question. */
    private void settle(Project p) {
        int used = 0;
        turns.clear();
        for (Entry e : entries) {
            if (e != null && e.isOf(p)) {
                e.amount = amountOf(e, ALL_RULES);
                e.isOver = false;
                if (e.isBilled()) {
                    used += e.charge;
                } else {
                    turns.add(e);
                }
            }
        }
        turns.charge(p, used);
    }

    private int factOfProject(Project p, int what) {
        if (what != 3) {
            return sumOverEntries(p, what);
        }
        return p.budget == 0 ? 0 : p.budget - sumOverEntries(p, 1);
    }

    private int sumOverEntries(Project p, int what) {
        int sum = 0;
        for (Entry e : entries) {
            if (e != null && e.isOf(p)) {
                sum += e.shareOf(what);
            }
        }
        return sum;
    }

    private int firstOverOf(Project p) {
        int first = -1;
        for (Entry e : entries) {
            if (e != null && e.isOf(p) && e.isOver && (first < 0 || e.day < first)) {
                first = e.day;
            }
        }
        return first;
    }

    private Bill makeBill(Project p, int lastDay, int number) {
        Bill b = new Bill(p);
        for (int k = 0; k < entries.length; k++) {
            Entry e = entries[k];
            if (e != null && e.isBillable(p, lastDay)) {
                b.addEntry(e);
                e.bill = number;
            }
            if (e != null && e.isCorrected && e.project == p) {
                b.addCorrection(k, e.correction);
                e.dropCorrection();
            }
        }
        b.close();
        return b;
    }

    private Bill lastBillOf(Project p) {
        Bill last = null;
        for (Bill b : bills) {
            if (b != null && b.project == p && !b.isTakenBack) {
                last = b;
            }
        }
        return last;
    }

    private static long mix(long d, long x) {
        return d * 31 + x;
    }

    private long mixProjects(long d) {
        for (Project p : projects) {
            if (p != null) {
                settle(p);
                for (int what = 0; what <= 5; what++) {
                    d = mix(d, factOfProject(p, what));
                }
                d = mix(d, firstOverOf(p));
            }
        }
        return d;
    }

    /** Stands on mixProjects, which has just settled all projects. */
    private long mixEntries(long d) {
        for (Entry e : entries) {
            if (e != null && !e.isGone) {
                for (int what = 0; what <= 10; what++) {
                    d = mix(d, e.fact(what));
                }
                int reasons = reasonsAt(e, e.from);
                d = mix(d, rules.rateOf(reasons));
                d = mix(d, reasons);
            }
        }
        return d;
    }

    private long mixBills(long d) {
        for (Bill b : bills) {
            if (b != null) {
                for (int what = 0; what <= 7; what++) {
                    d = mix(d, b.fact(what));
                }
                int lines = b.lineCount();
                for (int k = 0; k < lines; k++) {
                    for (int what = 0; what <= 3; what++) {
                        d = mix(d, b.factOfLine(k, what));
                    }
                }
            }
        }
        return d;
    }

    private static final class Project {
        static final int NEAREST = 0;
        static final int UP = 1;
        static final int DOWN = 2;

        final int number;
        int budget;
        boolean isHard;
        int step = 1;
        int way = NEAREST;
        int discount;
        int tax;

        Project(int number, int budget, boolean isHard) {
            this.number = number;
            this.budget = budget;
            this.isHard = isHard;
        }

        int rounded(int length) {
            if (step <= 1) {
                return length;
            }
            int more = way == UP ? step - 1 : way == DOWN ? 0 : step / 2;
            return (length + more) / step * step;
        }

        boolean isOver(int used, int amount) {
            return budget != 0 && used + amount > budget;
        }

        int chargeFor(int used, int amount) {
            if (budget == 0 || !isHard) {
                return amount;
            }
            return Math.min(amount, Math.max(0, budget - used));
        }

        int lessOf(int net) {
            return (int) nearest((long) net * discount, 100);
        }

        int taxOf(int cents) {
            return (int) nearest((long) cents * tax, 100);
        }
    }

    private static final class Rule {
        static final int ANY_DAY = 0;
        static final int NO_REST = 1;
        static final int REST_ONLY = 2;

        boolean isFix;
        int n;
        int person;
        int project;
        int kind;
        int firstDay;
        int lastDay;
        int which;
        int from;
        int to;

        void begin(boolean fix, int effect) {
            isFix = fix;
            n = effect;
            person = ALL;
            project = ALL;
            kind = ALL;
            firstDay = 0;
            lastDay = LAST_DAY;
            which = ANY_DAY;
            from = 0;
            to = DAY_END;
        }

        boolean meets(Entry e) {
            return (person == ALL || person == e.person) && (project == ALL || project == e.project.number)
                    && (kind == ALL || kind == e.kind) && meetsDay(e.day);
        }

        boolean meetsDay(int day) {
            int sort = day % 7 >= 5 ? REST_ONLY : NO_REST;
            return day >= firstDay && day <= lastDay && (which == ANY_DAY || which == sort);
        }

        boolean meetsMinute(int minute) {
            return minute >= from && minute < to;
        }

        /** Where it begins or ends, if that is behind the minute and ahead of the end; otherwise the end. */
        int edgeBehind(int minute, int end) {
            int edge = end;
            if (from > minute && from < edge) {
                edge = from;
            }
            if (to > minute && to < edge) {
                edge = to;
            }
            return edge;
        }
    }

    /** The rules in their order. A set of them is the sum of 2^k for each number k in it. */
    private static final class RuleBook {
        final Rule[] rows = new Rule[MAX_RULES];
        int count;

        RuleBook() {
            for (int k = 0; k < rows.length; k++) {
                rows[k] = new Rule();
            }
        }

        Rule at(int number) {
            return isWithin(number, 0, count - 1) ? rows[number] : null;
        }

        /** Its number; -1 if there is no room for it. */
        int add(boolean isFix, int n) {
            if (count >= rows.length) {
                return -1;
            }
            rows[count].begin(isFix, n);
            count++;
            return count - 1;
        }

        /** The row that falls out goes behind the others, for the next rule to use it again. */
        void drop(int number) {
            Rule dropped = rows[number];
            for (int k = number; k < count - 1; k++) {
                rows[k] = rows[k + 1];
            }
            count--;
            rows[count] = dropped;
        }

        /** The set of rules that meet the entry at one minute or another, or would if they had it. */
        int meeting(Entry e) {
            int set = 0;
            for (int k = 0; k < count; k++) {
                if (rows[k].meets(e)) {
                    set |= 1 << k;
                }
            }
            return set;
        }

        int reasonsAt(int met, int minute) {
            int set = 0;
            boolean isFixed = false;
            for (int k = 0; k < count; k++) {
                Rule r = rows[k];
                if ((met >> k & 1) == 1 && r.meetsMinute(minute) && !(r.isFix && isFixed)) {
                    set |= 1 << k;
                    isFixed = isFixed || r.isFix;
                }
            }
            return set;
        }

        int rateOf(int reasons) {
            int rate = 0;
            for (int k = 0; k < count; k++) {
                if ((reasons >> k & 1) == 1 && rows[k].isFix) {
                    rate = rows[k].n;
                }
            }
            for (int k = 0; k < count; k++) {
                if ((reasons >> k & 1) == 1 && !rows[k].isFix) {
                    rate = Math.min(MAX_RATE, rate + rate * rows[k].n / 100);
                }
            }
            return rate;
        }

        /** By parts, as the rate is another one only where a rule begins or ends: at most twice for each rule. */
        long sumOfRates(Entry e, int met) {
            long sum = 0;
            int minute = e.from;
            for (int part = 0; part <= 2 * MAX_RULES && minute < e.to; part++) {
                int next = edgeBehind(minute, met, e.to);
                sum += (long) (next - minute) * rateOf(reasonsAt(met, minute));
                minute = next;
            }
            return sum;
        }

        private int edgeBehind(int minute, int met, int end) {
            int edge = end;
            for (int k = 0; k < count; k++) {
                if ((met >> k & 1) == 1) {
                    edge = rows[k].edgeBehind(minute, edge);
                }
            }
            return edge;
        }
    }

    /** What amount, isOver and, if it is not billed, charge hold is as it was when its project was settled. */
    private static final class Entry {
        final int person;
        final Project project;
        final int kind;
        final int day;
        int from;
        int to;
        boolean isGone;
        int bill = NO_BILL;
        int amount;
        int charge;
        boolean isOver;
        /** A correction of 0 waits too, so the sum alone does not tell whether one does. */
        boolean isCorrected;
        int correction;

        Entry(int person, Project project, int kind, int day) {
            this.person = person;
            this.project = project;
            this.kind = kind;
            this.day = day;
        }

        int length() {
            return to - from;
        }

        int rounded() {
            return project.rounded(length());
        }

        boolean isOf(Project p) {
            return !isGone && project == p;
        }

        boolean isBilled() {
            return bill != NO_BILL;
        }

        boolean isBillable(Project p, int lastDay) {
            return isOf(p) && !isBilled() && day <= lastDay;
        }

        boolean hasMinute(int minute) {
            return minute >= from && minute < to;
        }

        boolean meets(int otherPerson, int otherDay, int otherFrom, int otherTo) {
            return !isGone && person == otherPerson && day == otherDay && from < otherTo && otherFrom < to;
        }

        boolean isAheadOf(Entry other) {
            if (day != other.day) {
                return day < other.day;
            }
            return from != other.from ? from < other.from : person < other.person;
        }

        void await(int cents) {
            isCorrected = true;
            correction += cents;
        }

        void dropCorrection() {
            isCorrected = false;
            correction = 0;
        }

        int fact(int what) {
            switch (what) {
                case 0: return person;
                case 1: return project.number;
                case 2: return kind;
                case 3: return day;
                case 4: return from;
                case 5: return to;
                case 6: return rounded();
                case 7: return amount;
                case 8: return charge;
                case 9: return isOver ? 1 : 0;
                default: return bill;
            }
        }

        /** What it adds to the fact of its project that is a sum. */
        int shareOf(int what) {
            switch (what) {
                case 0: return length();
                case 1: return charge;
                case 2: return isBilled() ? 0 : charge;
                case 4: return isOver ? 1 : 0;
                default: return correction;
            }
        }
    }

    /** The entries of one project that are not billed, in the order in which they use its budget. */
    private static final class Turns {
        final Entry[] rows = new Entry[MAX_ENTRIES];
        int count;

        void clear() {
            count = 0;
        }

        void add(Entry e) {
            if (count >= rows.length) {
                return;
            }
            int place = count;
            for (int k = count - 1; k >= 0 && e.isAheadOf(rows[k]); k--) {
                rows[k + 1] = rows[k];
                place = k;
            }
            rows[place] = e;
            count++;
        }

        void charge(Project p, int usedAtFirst) {
            int used = usedAtFirst;
            for (int k = 0; k < count; k++) {
                Entry e = rows[k];
                e.isOver = p.isOver(used, e.amount);
                e.charge = p.chargeFor(used, e.amount);
                used += e.charge;
            }
        }
    }

    /** Its lines are kept by person and kind; one is there if an entry has come into it. */
    private static final class Bill {
        final Project project;
        boolean isTakenBack;
        int net;
        int less;
        int taxInAll;
        int corrections;
        final int[] lineEntries = new int[MAX_LINES];
        final int[] lineRounded = new int[MAX_LINES];
        final int[] lineCharges = new int[MAX_LINES];
        /** By the entries that they were made of, as each of these can drop its own when its bill is taken back. */
        final boolean[] isCorrected = new boolean[MAX_ENTRIES];
        final int[] correction = new int[MAX_ENTRIES];

        Bill(Project project) {
            this.project = project;
        }

        void addEntry(Entry e) {
            int place = e.person * KINDS + e.kind;
            if (!isWithin(place, 0, MAX_LINES - 1)) {
                return;
            }
            lineEntries[place]++;
            lineRounded[place] += e.rounded();
            lineCharges[place] += e.charge;
            net += e.charge;
        }

        void addCorrection(int entry, int cents) {
            if (!isWithin(entry, 0, MAX_ENTRIES - 1)) {
                return;
            }
            isCorrected[entry] = true;
            correction[entry] = cents;
            corrections += cents;
            net += cents;
        }

        void close() {
            less = project.lessOf(net);
            taxInAll = project.taxOf(net - less);
        }

        boolean hasCorrectionOf(int entry) {
            return isWithin(entry, 0, MAX_ENTRIES - 1) && isCorrected[entry];
        }

        int correctionOf(int entry) {
            return isWithin(entry, 0, MAX_ENTRIES - 1) ? correction[entry] : 0;
        }

        void empty() {
            isTakenBack = true;
            net = 0;
            less = 0;
            taxInAll = 0;
            corrections = 0;
        }

        int lineCount() {
            if (isTakenBack) {
                return 0;
            }
            int lines = 0;
            for (int have : lineEntries) {
                if (have > 0) {
                    lines++;
                }
            }
            return lines;
        }

        int fact(int what) {
            switch (what) {
                case 0: return project.number;
                case 1: return lineCount();
                case 2: return net;
                case 3: return less;
                case 4: return taxInAll;
                case 5: return net - less + taxInAll;
                case 6: return corrections;
                default: return isTakenBack ? 1 : 0;
            }
        }

        int factOfLine(int line, int what) {
            int place = placeOf(line);
            switch (what) {
                case 0: return place / KINDS;
                case 1: return place % KINDS;
                case 2: return lineRounded[place];
                default: return lineCharges[place];
            }
        }

        private int placeOf(int line) {
            int ahead = 0;
            for (int place = 0; place < MAX_LINES; place++) {
                if (lineEntries[place] > 0) {
                    if (ahead == line) {
                        return place;
                    }
                    ahead++;
                }
            }
            return 0;
        }
    }
}
