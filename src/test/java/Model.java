import java.util.ArrayList;
import java.util.Comparator;
import java.util.List;
import java.util.TreeMap;

/** The document word for word, minute by minute, with no eye to speed: what Hourbook is compared with. */
final class Model extends Book {
    static final class Project {
        int budget, step = 1, way, discount, tax;
        boolean isHard;
    }

    static final class Rule {
        boolean isFix;
        int n, person = -1, project = -1, kind = -1;
        int firstDay = 0, lastDay = 364, which = 0, from = 0, to = 1440;
    }

    static final class Entry {
        int number, person, project, kind, day, from, to, bill = -1, billedCharge;
        boolean isGone;
    }

    static final class Correction {
        Entry entry;
        int cents, bill = -1;
        boolean isDropped;
    }

    static final class Bill {
        int project, net, less, tax;
        boolean isTakenBack;
        TreeMap<Integer, int[]> lines = new TreeMap<>();
    }

    final List<Project> projects = new ArrayList<>();
    final List<Rule> rules = new ArrayList<>();
    final List<Entry> entries = new ArrayList<>();
    final List<Correction> corrections = new ArrayList<>();
    final List<Bill> bills = new ArrayList<>();

    @Override
    int project(int budget, boolean isHard) {
        argument(budget >= 0 && budget <= 10000000);
        state(projects.size() < 6);
        Project p = new Project();
        p.budget = budget;
        p.isHard = isHard;
        projects.add(p);
        return projects.size() - 1;
    }

    @Override
    int setBudget(int project, int budget, boolean isHard) {
        index(has(projects, project));
        argument(budget >= 0 && budget <= 10000000);
        Project p = projects.get(project);
        int before = p.budget;
        p.budget = budget;
        p.isHard = isHard;
        return before;
    }

    @Override
    int setStep(int project, int step, int way) {
        index(has(projects, project));
        argument(List.of(1, 5, 6, 10, 15, 30).contains(step) && way >= 0 && way <= 2);
        Project p = projects.get(project);
        int before = p.step;
        p.step = step;
        p.way = way;
        return before;
    }

    @Override
    int setTerms(int project, int discount, int tax) {
        index(has(projects, project));
        argument(discount >= 0 && discount <= 100 && tax >= 0 && tax <= 100);
        Project p = projects.get(project);
        int before = p.discount;
        p.discount = discount;
        p.tax = tax;
        return before;
    }

    @Override
    int rule(boolean isFix, int n) {
        argument(isEffect(isFix, n));
        state(rules.size() < 10);
        Rule r = new Rule();
        r.isFix = isFix;
        r.n = n;
        rules.add(r);
        return rules.size() - 1;
    }

    @Override
    int aim(int rule, int person, int project, int kind) {
        index(has(rules, rule));
        argument(person >= -1 && person <= 5 && project >= -1 && project <= 5 && kind >= -1 && kind <= 3);
        Rule r = rules.get(rule);
        r.person = person;
        r.project = project;
        r.kind = kind;
        return rule;
    }

    @Override
    int time(int rule, int firstDay, int lastDay, int which, int from, int to) {
        index(has(rules, rule));
        argument(firstDay >= 0 && firstDay <= 364 && lastDay >= firstDay && lastDay <= 364
                && which >= 0 && which <= 2 && areMinutes(from, to));
        Rule r = rules.get(rule);
        r.firstDay = firstDay;
        r.lastDay = lastDay;
        r.which = which;
        r.from = from;
        r.to = to;
        return rule;
    }

    @Override
    int dropRule(int rule) {
        index(has(rules, rule));
        rules.remove(rule);
        return rules.size();
    }

    @Override
    int entry(int person, int project, int kind, int day, int from, int to) {
        index(has(projects, project));
        argument(person >= 0 && person <= 5 && kind >= 0 && kind <= 3 && day >= 0 && day <= 364
                && areMinutes(from, to));
        state(entries.size() < 60 && isFree(person, day, from, to, null));
        Entry e = new Entry();
        e.number = entries.size();
        e.person = person;
        e.project = project;
        e.kind = kind;
        e.day = day;
        e.from = from;
        e.to = to;
        entries.add(e);
        return e.number;
    }

    @Override
    int change(int entry, int from, int to) {
        index(isThere(entry));
        argument(areMinutes(from, to));
        Entry e = entries.get(entry);
        state(isFree(e.person, e.day, from, to, e));
        e.from = from;
        e.to = to;
        if (e.bill < 0) {
            return 0;
        }
        Correction c = new Correction();
        c.entry = e;
        c.cents = amount(e) - e.billedCharge;
        corrections.add(c);
        e.billedCharge = amount(e);
        return c.cents;
    }

    @Override
    int take(int entry) {
        index(isThere(entry));
        state(entries.get(entry).bill < 0);
        entries.get(entry).isGone = true;
        return there().size();
    }

    @Override
    int many(int what) {
        argument(what >= 0 && what <= 3);
        return new int[] {projects.size(), rules.size(), there().size(), bills.size()}[what];
    }

    @Override
    int ofEntry(int entry, int what) {
        index(isThere(entry));
        argument(what >= 0 && what <= 10);
        Entry e = entries.get(entry);
        switch (what) {
            case 0: return e.person;
            case 1: return e.project;
            case 2: return e.kind;
            case 3: return e.day;
            case 4: return e.from;
            case 5: return e.to;
            case 6: return rounded(e);
            case 7: return amount(e);
            case 8: return charges(e.project)[0][e.number];
            case 9: return charges(e.project)[1][e.number];
            default: return e.bill;
        }
    }

    @Override
    int rate(int entry, int minute) {
        index(isThere(entry));
        Entry e = entries.get(entry);
        argument(minute >= e.from && minute < e.to);
        return rate(e, minute);
    }

    @Override
    int why(int entry, int minute) {
        index(isThere(entry));
        Entry e = entries.get(entry);
        argument(minute >= e.from && minute < e.to);
        int sum = 0;
        boolean isFixFound = false;
        for (int k = 0; k < rules.size(); k++) {
            Rule r = rules.get(k);
            if (meets(r, e, minute) && !(r.isFix && isFixFound)) {
                sum += (int) Math.pow(2, k);
                isFixFound = isFixFound || r.isFix;
            }
        }
        return sum;
    }

    @Override
    int ofProject(int project, int what) {
        index(has(projects, project));
        argument(what >= 0 && what <= 5);
        int[][] charges = charges(project);
        int lengths = 0, all = 0, open = 0, over = 0, waiting = 0;
        for (Entry e : there()) {
            if (e.project == project) {
                lengths += e.to - e.from;
                all += charges[0][e.number];
                open += e.bill < 0 ? charges[0][e.number] : 0;
                over += charges[1][e.number];
            }
        }
        for (Correction c : waiting(project)) {
            waiting += c.cents;
        }
        int budget = projects.get(project).budget;
        return new int[] {lengths, all, open, budget == 0 ? 0 : budget - all, over, waiting}[what];
    }

    @Override
    int worked(int person, int firstDay, int lastDay) {
        argument(person >= 0 && person <= 5 && firstDay >= 0 && firstDay <= 364 && lastDay >= 0 && lastDay <= 364);
        int sum = 0;
        for (Entry e : there()) {
            sum += e.person == person && e.day >= firstDay && e.day <= lastDay ? e.to - e.from : 0;
        }
        return sum;
    }

    @Override
    int bill(int project, int lastDay) {
        index(has(projects, project));
        argument(lastDay >= 0 && lastDay <= 364);
        state(bills.size() < 20 && !(toBill(project, lastDay).isEmpty() && waiting(project).isEmpty()));
        Bill b = draft(project, lastDay);
        int[][] charges = charges(project);
        List<Entry> taken = toBill(project, lastDay);
        List<Correction> taking = waiting(project);
        for (Entry e : taken) {
            e.billedCharge = charges[0][e.number];
            e.bill = bills.size();
        }
        for (Correction c : taking) {
            c.bill = bills.size();
        }
        bills.add(b);
        return bills.size() - 1;
    }

    @Override
    int takeBack(int bill) {
        index(has(bills, bill));
        Bill b = bills.get(bill);
        boolean isLast = !b.isTakenBack;
        for (int k = bill + 1; k < bills.size(); k++) {
            isLast = isLast && (bills.get(k).project != b.project || bills.get(k).isTakenBack);
        }
        state(isLast);
        for (Correction c : corrections) {
            if (c.bill == bill) {
                c.bill = -1;
            }
        }
        for (Correction c : corrections) {
            if (c.bill == -1 && c.entry.bill == bill) {
                c.isDropped = true;
            }
        }
        int freed = 0;
        for (Entry e : entries) {
            if (e.bill == bill) {
                e.bill = -1;
                freed++;
            }
        }
        b.isTakenBack = true;
        b.lines.clear();
        b.net = 0;
        b.less = 0;
        b.tax = 0;
        return freed;
    }

    @Override
    int ofBill(int bill, int what) {
        index(has(bills, bill));
        argument(what >= 0 && what <= 7);
        Bill b = bills.get(bill);
        int sum = 0;
        for (Correction c : corrections) {
            sum += c.bill == bill ? c.cents : 0;
        }
        return new int[] {b.project, b.lines.size(), b.net, b.less, b.tax, b.net - b.less + b.tax, sum,
            b.isTakenBack ? 1 : 0}[what];
    }

    @Override
    int line(int bill, int line, int what) {
        index(has(bills, bill) && line >= 0 && line < bills.get(bill).lines.size());
        argument(what >= 0 && what <= 3);
        return new ArrayList<>(bills.get(bill).lines.values()).get(line)[what];
    }

    @Override
    int wouldBill(int project, int lastDay) {
        index(has(projects, project));
        argument(lastDay >= 0 && lastDay <= 364);
        if (toBill(project, lastDay).isEmpty() && waiting(project).isEmpty()) {
            return 0;
        }
        Bill b = draft(project, lastDay);
        return b.net - b.less + b.tax;
    }

    @Override
    int without(int rule) {
        index(has(rules, rule));
        int with = amounts();
        Rule r = rules.remove(rule);
        int without = amounts();
        rules.add(rule, r);
        return without - with;
    }

    @Override
    int amountsWith(int rule, int n) {
        index(has(rules, rule));
        argument(isEffect(rules.get(rule).isFix, n));
        int before = rules.get(rule).n;
        rules.get(rule).n = n;
        int sum = amounts();
        rules.get(rule).n = before;
        return sum;
    }

    @Override
    int overOn(int project) {
        index(has(projects, project));
        int[][] charges = charges(project);
        for (Entry e : inOrder(project)) {
            if (charges[1][e.number] == 1) {
                return e.day;
            }
        }
        return -1;
    }

    @Override
    double meanRate() {
        double lengths = 0;
        for (Entry e : there()) {
            lengths += e.to - e.from;
        }
        return lengths == 0 ? 0 : 60.0 * amounts() / lengths;
    }

    @Override
    long digest() {
        List<Integer> xs = new ArrayList<>();
        for (int what = 0; what <= 3; what++) {
            xs.add(many(what));
        }
        for (int p = 0; p < projects.size(); p++) {
            for (int what = 0; what <= 5; what++) {
                xs.add(ofProject(p, what));
            }
            xs.add(overOn(p));
        }
        for (int r = 0; r < rules.size(); r++) {
            xs.add(without(r));
        }
        for (Entry e : there()) {
            for (int what = 0; what <= 10; what++) {
                xs.add(ofEntry(e.number, what));
            }
            xs.add(rate(e.number, e.from));
            xs.add(why(e.number, e.from));
        }
        for (int b = 0; b < bills.size(); b++) {
            for (int what = 0; what <= 7; what++) {
                xs.add(ofBill(b, what));
            }
            for (int line = 0; line < bills.get(b).lines.size(); line++) {
                for (int what = 0; what <= 3; what++) {
                    xs.add(line(b, line, what));
                }
            }
        }
        long d = 58079;
        for (int x : xs) {
            d = d * 31 + x;
        }
        return d;
    }

    // ---- Terms

    private static boolean isEffect(boolean isFix, int n) {
        return isFix ? n >= 0 && n <= 50000 : n >= -90 && n <= 200;
    }

    private static boolean areMinutes(int from, int to) {
        return from >= 0 && from <= 1439 && to >= from + 1 && to <= 1440;
    }

    private static boolean has(List<?> list, int number) {
        return number >= 0 && number < list.size();
    }

    private boolean isThere(int entry) {
        return has(entries, entry) && !entries.get(entry).isGone;
    }

    private List<Entry> there() {
        List<Entry> list = new ArrayList<>(entries);
        list.removeIf(e -> e.isGone);
        return list;
    }

    private boolean isFree(int person, int day, int from, int to, Entry but) {
        for (Entry e : there()) {
            for (int minute = from; minute < to && e != but && e.person == person && e.day == day; minute++) {
                if (minute >= e.from && minute < e.to) {
                    return false;
                }
            }
        }
        return true;
    }

    private static int nearest(long n, long d) {
        long below = n / d;
        while (below * d > n) {
            below--;
        }
        return (int) (2 * (n - below * d) >= d ? below + 1 : below);
    }

    private int rounded(Entry e) {
        Project p = projects.get(e.project);
        int length = e.to - e.from;
        int below = 0;
        while (below + p.step <= length) {
            below += p.step;
        }
        int above = below == length ? below : below + p.step;
        if (p.way == 0) {
            return length - below < above - length ? below : above;
        }
        return p.way == 1 ? above : below;
    }

    private boolean meets(Rule r, Entry e, int minute) {
        boolean isRest = e.day % 7 == 5 || e.day % 7 == 6;
        return (r.person == -1 || r.person == e.person) && (r.project == -1 || r.project == e.project)
                && (r.kind == -1 || r.kind == e.kind) && e.day >= r.firstDay && e.day <= r.lastDay
                && (r.which == 0 || r.which == 1 && !isRest || r.which == 2 && isRest)
                && minute >= r.from && minute < r.to;
    }

    private int rate(Entry e, int minute) {
        int rate = 0;
        for (Rule r : rules) {
            if (r.isFix && meets(r, e, minute)) {
                rate = r.n;
                break;
            }
        }
        for (Rule r : rules) {
            if (!r.isFix && meets(r, e, minute)) {
                rate = Math.min(500000, rate + rate * r.n / 100);
            }
        }
        return rate;
    }

    private int amount(Entry e) {
        long s = 0;
        for (int minute = e.from; minute < e.to; minute++) {
            s += rate(e, minute);
        }
        return nearest(s * rounded(e), 60L * (e.to - e.from));
    }

    private int amounts() {
        int sum = 0;
        for (Entry e : there()) {
            sum += amount(e);
        }
        return sum;
    }

    private List<Entry> inOrder(int project) {
        List<Entry> list = there();
        list.removeIf(e -> e.project != project || e.bill >= 0);
        list.sort(Comparator.<Entry>comparingInt(e -> e.day).thenComparingInt(e -> e.from)
                .thenComparingInt(e -> e.person));
        return list;
    }

    /** By the numbers of the entries: [0] their charges, [1] 1 for those that are over. */
    private int[][] charges(int project) {
        int[][] charges = new int[2][entries.size()];
        int used = 0;
        for (Entry e : there()) {
            if (e.project == project && e.bill >= 0) {
                charges[0][e.number] = e.billedCharge;
                used += e.billedCharge;
            }
        }
        Project p = projects.get(project);
        for (Entry e : inOrder(project)) {
            int amount = amount(e);
            int charge = amount;
            if (p.isHard && p.budget != 0) {
                int left = p.budget - used < 0 ? 0 : p.budget - used;
                charge = left < amount ? left : amount;
            }
            charges[0][e.number] = charge;
            charges[1][e.number] = p.budget != 0 && used + amount > p.budget ? 1 : 0;
            used += charge;
        }
        return charges;
    }

    private List<Entry> toBill(int project, int lastDay) {
        List<Entry> list = inOrder(project);
        list.removeIf(e -> e.day > lastDay);
        return list;
    }

    private List<Correction> waiting(int project) {
        List<Correction> list = new ArrayList<>(corrections);
        list.removeIf(c -> c.isDropped || c.bill >= 0 || c.entry.project != project);
        return list;
    }

    private Bill draft(int project, int lastDay) {
        Bill b = new Bill();
        b.project = project;
        int[][] charges = charges(project);
        for (Entry e : toBill(project, lastDay)) {
            int[] line = b.lines.computeIfAbsent(e.person * 10 + e.kind, k -> new int[] {e.person, e.kind, 0, 0});
            line[2] += rounded(e);
            line[3] += charges[0][e.number];
            b.net += charges[0][e.number];
        }
        for (Correction c : waiting(project)) {
            b.net += c.cents;
        }
        Project p = projects.get(project);
        b.less = nearest((long) b.net * p.discount, 100);
        b.tax = nearest((long) (b.net - b.less) * p.tax, 100);
        return b;
    }

    private static void index(boolean isRight) {
        if (!isRight) {
            throw new IndexOutOfBoundsException();
        }
    }

    private static void argument(boolean isRight) {
        if (!isRight) {
            throw new IllegalArgumentException();
        }
    }

    private static void state(boolean isRight) {
        if (!isRight) {
            throw new IllegalStateException();
        }
    }
}
