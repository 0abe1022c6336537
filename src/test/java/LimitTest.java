import java.math.BigInteger;
import java.util.ArrayList;
import java.util.List;

/** None and one, full and one more, the 512 calls, the greatest numbers, and the checksum's wrap-around. */
public final class LimitTest {
    private static final Check C = new Check("LimitTest");
    private static final int MOST_CALLS = 512;

    public static void main(String[] args) {
        none();
        one();
        sixProjects();
        tenRules();
        newRules();
        sixtyEntries();
        twentyBills();
        allCalls();
        correctionsInAllCalls();
        rulesInAllCalls();
        greatest();
        fewest();
        wraps();
        order();
        C.end();
    }

    private static Real plain() {
        Real h = new Real();
        h.project(0, false);
        h.rule(true, 60);
        return h;
    }

    // ---- none and one

    private static void none() {
        Real h = new Real();
        for (int what = 0; what <= 3; what++) {
            C.is("many " + what, h.many(what), 0);
        }
        for (int person = 0; person <= 5; person++) {
            C.is("worked by " + person, h.worked(person, 0, 364), 0);
        }
        C.is("the mean of none", h.meanRate(), 0.0);
        C.is("the checksum of none", h.digest(), 58079L * 31 * 31 * 31 * 31);
        h.project(500, true);
        int[] due = {0, 0, 0, 500, 0, 0};
        for (int what = 0; what <= 5; what++) {
            C.is("of a project without entries, " + what, h.ofProject(0, what), due[what]);
        }
        C.is("nothing would be billed", h.wouldBill(0, 364), 0);
        C.is("none is over", h.overOn(0), -1);
        C.state("nothing is billed", () -> h.bill(0, 364));
        h.rule(true, 100);
        C.is("without the only rule", h.without(0), 0);
        C.is("with another rate", h.amountsWith(0, 50000), 0);
        h.take(h.entry(0, 0, 0, 0, 0, 60));
        C.is("the mean of one that is gone", h.meanRate(), 0.0);
        C.is("the entries of one that is gone", h.many(2), 0);
        C.is("the checksum has nothing of one that is gone", h.digest(),
                wrapped(1, 1, 0, 0, 0, 0, 0, 500, 0, 0, -1, 0));
    }

    private static void one() {
        Real h = plain();
        h.entry(5, 0, 3, 364, 1439, 1440);
        C.is("worked", h.worked(5, 364, 364), 1);
        C.is("its length", h.ofProject(0, 0), 1);
        C.is("the mean of one minute", h.meanRate(), 60.0);
        C.is("without the only rule", h.without(0), -1);
        C.is("with another rate", h.amountsWith(0, 50000), 833);
        C.is("what would be billed", h.wouldBill(0, 364), 1);
        C.is("of it and its project and its rule", h.digest(), wrapped(1, 1, 1, 0, 1, 1, 1, 0, 0, 0, -1, -1,
                5, 0, 3, 364, 1439, 1440, 1, 1, 1, 0, -1, 60, 1));
        C.is("one bill", h.bill(0, 364), 0);
        C.is("of one line", h.ofBill(0, 1), 1);
        C.is("with its bill", h.digest(), wrapped(1, 1, 1, 1, 1, 1, 0, 0, 0, 0, -1, -1,
                5, 0, 3, 364, 1439, 1440, 1, 1, 1, 0, 0, 60, 1, 0, 1, 1, 0, 0, 1, 0, 0, 5, 3, 1, 1));
        C.is("one entry is free", h.takeBack(0), 1);
        C.is("none is left", h.take(0), 0);
        C.is("no rule is left", h.dropRule(0), 0);
    }

    // ---- full and one more

    private static void sixProjects() {
        Real h = new Real();
        for (int p = 0; p < 6; p++) {
            C.index("2: project " + p + " is not there yet", () -> h.overOn(h.many(0)));
            C.is("2: project " + p, h.project(p, false), p);
        }
        C.state("2: a seventh", () -> h.project(6, false));
        C.is("13: six", h.many(0), 6);
        for (int p = 0; p < 6; p++) {
            C.is("3: the budget of project " + p, h.setBudget(p, 0, false), p);
        }
        C.index("3: no project 6", () -> h.setBudget(6, 0, false));
    }

    private static void tenRules() {
        Real h = new Real();
        h.project(0, false);
        h.entry(0, 0, 0, 0, 0, 1);
        for (int r = 0; r < 10; r++) {
            C.is("6: rule " + r, h.rule(false, r), r);
            C.is("16: all of them, up to " + r, h.why(0, 0), (2 << r) - 1);
        }
        C.state("6: an eleventh", () -> h.rule(true, 6));
        C.is("9: nine are left", h.dropRule(9), 9);
        C.is("6: room for one", h.rule(true, 6000), 9);
        C.state("6: but not for two", () -> h.rule(true, 6));
        C.is("15: the tenth, and all the percents", h.rate(0, 0), 8513);
        C.is("24: without the tenth", h.without(9), -142);
        C.is("9: from the first one on", h.dropRule(0), 9);
        C.is("16: all moved up", h.why(0, 0), 511);
        C.is("6: as often as there is room", h.rule(false, 0), 9);
        for (int left = 9; left >= 0; left--) {
            C.is("9: down to " + left, h.dropRule(0), left);
        }
        C.is("15: none", h.rate(0, 0), 0);
        C.is("6: the first again", h.rule(true, 1), 0);
    }

    /** Whatever a rule was for that was dropped, a new one meets all. */
    private static void newRules() {
        int[][] aims = {{1, -1, -1}, {-1, 1, -1}, {-1, -1, 1}, {5, 5, 3}};
        for (int[] a : aims) {
            newRule("aim at " + a[0] + ", " + a[1] + ", " + a[2], h -> h.aim(1, a[0], a[1], a[2]));
        }
        int[][] times = {{101, 364, 0, 0, 1440}, {0, 99, 0, 0, 1440}, {0, 364, 2, 0, 1440}, {0, 364, 1, 0, 1440},
            {0, 364, 0, 601, 1440}, {0, 364, 0, 0, 600}};
        for (int[] t : times) {
            newRule("time " + t[0] + ", " + t[1] + ", " + t[2] + ", " + t[3] + ", " + t[4],
                    h -> h.time(1, t[0], t[1], t[2], t[3], t[4]));
        }
        newRule("all", h -> h.aim(1, -1, -1, -1));
    }

    private interface Setting {
        int on(Real h);
    }

    private static void newRule(String told, Setting setting) {
        Real h = plain();
        h.rule(false, 100);
        C.is("7, 8: its number", setting.on(h), 1);
        h.dropRule(1);
        h.rule(false, 100);
        h.entry(0, 0, 0, 100, 600, 601);
        h.entry(0, 0, 0, 103, 600, 601);
        C.is("6: a new rule behind one for " + told, h.rate(0, 600), 120);
        C.is("6: on a day of rest too, behind one for " + told, h.rate(1, 600), 120);
        h.dropRule(0);
        h.rule(true, 60);
        C.is("9: one that moved up is for what it was for", h.why(0, 600), 3);
    }

    private static void sixtyEntries() {
        Real h = plain();
        for (int e = 0; e < 60; e++) {
            C.is("10: entry " + e, h.entry(e % 6, 0, e % 4, 0, 24 * e, 24 * e + 24), e);
        }
        C.is("13: sixty", h.many(2), 60);
        C.state("10: a 61st", () -> h.entry(0, 0, 0, 1, 0, 1));
        C.is("12: 59 are left", h.take(59), 59);
        C.state("10: a 61st, as there were 60", () -> h.entry(0, 0, 0, 1, 0, 1));
        C.is("17: all minutes but those of one", h.ofProject(0, 0), 59 * 24);
        C.is("11: the last one that is there", h.change(58, 1392, 1440), 0);
        for (int e = 0; e < 59; e++) {
            C.is("12: without " + e, h.take(e), 58 - e);
        }
        C.state("10: none is left, but there were 60", () -> h.entry(0, 0, 0, 0, 0, 1));
        C.is("27: the mean of none that is left", h.meanRate(), 0.0);
        C.is("17: no charges", h.ofProject(0, 1), 0);
    }

    private static void twentyBills() {
        Real h = plain();
        h.entry(0, 0, 0, 0, 0, 60);
        for (int bill = 0; bill < 20; bill++) {
            C.is("19: bill " + bill, h.bill(0, 0), bill);
            C.is("20: taken back", h.takeBack(bill), 1);
        }
        C.state("19: a 21st, though all are taken back", () -> h.bill(0, 0));
        C.is("13: twenty", h.many(3), 20);
        C.is("23: what it would have", h.wouldBill(0, 0), 60);
        C.is("14: not billed", h.ofEntry(0, 10), -1);
        C.state("20: none to take back", () -> h.takeBack(19));
        Real kept = plain();
        kept.entry(0, 0, 0, 0, 0, 60);
        for (int bill = 0; bill < 20; bill++) {
            C.is("19: kept bill " + bill, kept.bill(0, 0), bill);
            C.is("11: a correction", kept.change(0, 0, 61 + bill), 1);
        }
        C.state("19: a 21st, with a correction", () -> kept.bill(0, 0));
        C.is("23: what it would have, with a correction", kept.wouldBill(0, 0), 1);
        C.is("20: the last one", kept.takeBack(19), 0);
        C.is("17: two wait", kept.ofProject(0, 5), 2);
        for (int bill = 18; bill >= 0; bill--) {
            C.is("20: bill " + bill, kept.takeBack(bill), bill == 0 ? 1 : 0);
            C.is("17: what waits", kept.ofProject(0, 5), bill == 0 ? 0 : 21 - bill);
        }
    }

    // ---- 512 calls

    private static void allCalls() {
        Real h = new Real();
        Model model = new Model();
        Sample.fillUp(h);
        Sample.fillUp(model);
        for (int k = 0; h.calls() < MOST_CALLS - 1; k++) {
            int entry = k * 7 % 59;
            int from = 10 * entry;
            int to = from + 1 + k * 13 % 200;
            C.is("change " + entry, Check.outcome(() -> h.change(entry, from, to)),
                    Check.outcome(() -> model.change(entry, from, to)));
        }
        C.is("the last of 512 calls", h.digest(), model.digest());
        C.is("which are all", h.calls(), MOST_CALLS);
    }

    /** A correction with each call: all of them wait. */
    private static void correctionsInAllCalls() {
        Real h = plain();
        h.entry(0, 0, 0, 0, 0, 1);
        h.bill(0, 0);
        int sum = 0;
        while (h.calls() < MOST_CALLS - 4) {
            sum += h.change(0, 0, 1 + h.calls() * 3 % 1440);
        }
        C.is("all corrections wait", h.ofProject(0, 5), sum);
        C.is("and are billed", h.bill(0, 0), 1);
        C.is("all of them", h.ofBill(1, 6), sum);
        C.is("the charge has them all", h.ofEntry(0, 8), sum + 1);
        C.is("that was the last call", h.calls(), MOST_CALLS);
    }

    /** A rule comes and goes with each two calls. */
    private static void rulesInAllCalls() {
        Real h = new Real();
        h.project(0, false);
        h.entry(0, 0, 0, 0, 0, 60);
        while (h.calls() < MOST_CALLS - 3) {
            int n = h.calls();
            C.is("6: a rule", h.rule(true, n), 0);
            C.is("9: none is left", h.dropRule(0), 0);
        }
        h.rule(true, 7);
        C.is("the last of 512 calls", h.ofEntry(0, 7), 7);
    }

    // ---- the greatest numbers

    private static void greatest() {
        Real h = new Real();
        h.project(10000000, false);
        h.setStep(0, 30, 1);
        h.setTerms(0, 0, 100);
        h.rule(true, 50000);
        for (int k = 0; k < 9; k++) {
            h.rule(false, 200);
        }
        for (int e = 0; e < 60; e++) {
            h.entry(e % 6, 0, e % 4, e, 0, 1440);
        }
        C.is("14: the greatest charge", h.ofEntry(59, 8), 12000000);
        C.is("17: the greatest sum of lengths", h.ofProject(0, 0), 86400);
        C.is("17: the greatest sum of charges", h.ofProject(0, 1), 720000000);
        C.is("17: of those that are not billed", h.ofProject(0, 2), 720000000);
        C.is("17: the fewest that is left", h.ofProject(0, 3), -710000000);
        C.is("17: all are over", h.ofProject(0, 4), 60);
        C.is("18: the most that one works", h.worked(0, 0, 364), 14400);
        C.is("23: the greatest total", h.wouldBill(0, 364), 1440000000);
        C.is("24: the greatest loss", h.without(0), -720000000);
        C.is("25: with the most", h.amountsWith(9, 200), 720000000);
        C.is("26: the first day", h.overOn(0), 0);
        C.is("27: the greatest mean", h.meanRate(), 500000.0);
        C.is("19: a bill of all", h.bill(0, 364), 0);
        int[] due = {0, 12, 720000000, 0, 720000000, 1440000000, 0, 0};
        for (int what = 0; what < due.length; what++) {
            C.is("21: the greatest, " + what, h.ofBill(0, what), due[what]);
        }
        C.is("22: the greatest line", h.line(0, 11, 3), 60000000);
        C.is("22: its minutes", h.line(0, 11, 2), 7200);
        h.dropRule(0);
        for (int e = 0; e < 60; e++) {
            C.is("11: the greatest correction, " + e, h.change(e, 0, 1440), -12000000);
        }
        C.is("17: the greatest sum of corrections", h.ofProject(0, 5), -720000000);
        C.is("23: the least total", h.wouldBill(0, 0), -1440000000);
        h.setTerms(0, 100, 100);
        C.is("19: a bill of corrections alone", h.bill(0, 0), 1);
        C.is("21: NET", h.ofBill(1, 2), -720000000);
        C.is("21: LESS", h.ofBill(1, 3), -720000000);
        C.is("21: TOTAL", h.ofBill(1, 5), 0);
        C.is("20: no entries", h.takeBack(1), 0);
        C.is("17: the corrections of all 60 wait again", h.ofProject(0, 5), -720000000);
    }

    private static void fewest() {
        Real h = new Real();
        h.project(1, true);
        h.rule(true, 1);
        h.rule(false, -90);
        h.entry(0, 0, 0, 0, 0, 1);
        C.is("15: the least rate", h.rate(0, 0), 1);
        C.is("14: no amount", h.ofEntry(0, 7), 0);
        C.is("14: no charge", h.ofEntry(0, 8), 0);
        C.is("14: not over", h.ofEntry(0, 9), 0);
        C.is("17: what is left", h.ofProject(0, 3), 1);
        C.is("27: a mean of nothing", h.meanRate(), 0.0);
        h.change(0, 0, 30);
        C.is("14: half a cent is one", h.ofEntry(0, 8), 1);
        C.is("17: nothing is left", h.ofProject(0, 3), 0);
        C.is("27: twice the rate, as it is rounded", h.meanRate(), 2.0);
        h.change(0, 0, 90);
        C.is("14: no more than is left", h.ofEntry(0, 8), 1);
        C.is("27: by the amount, not by the charge", h.meanRate(), 60.0 * 2 / 90);
        h.change(0, 0, 700);
        C.is("27: not cut", h.meanRate(), 60.0 * 12 / 700);
    }

    // ---- the checksum

    /** As a 64-bit integer, by numbers that do not wrap around by themselves. */
    private static long wrapped(long... xs) {
        return unwrapped(xs).longValue();
    }

    private static BigInteger unwrapped(long... xs) {
        BigInteger d = BigInteger.valueOf(58079);
        for (long x : xs) {
            d = d.multiply(BigInteger.valueOf(31)).add(BigInteger.valueOf(x));
        }
        return d;
    }

    /** Projects alone: 7 numbers each, so that it wraps around with the second one. */
    private static void wraps() {
        Real h = new Real();
        List<Long> xs = new ArrayList<>(List.of(0L, 0L, 0L, 0L));
        BigInteger greatest = BigInteger.valueOf(Long.MAX_VALUE);
        for (int p = 0; p < 6; p++) {
            int budget = p * 1999999;
            h.project(budget, false);
            xs.set(0, p + 1L);
            xs.addAll(List.of(0L, 0L, 0L, (long) budget, 0L, 0L, -1L));
            BigInteger due = unwrapped(array(xs));
            C.is("28: it wraps around, with " + (p + 1), due.compareTo(greatest) > 0, true);
            C.is("28: with " + (p + 1) + " projects", h.digest(), due.longValue());
        }
        Real none = new Real();
        C.is("28: with none it does not", none.digest(), unwrapped(0, 0, 0, 0).longValueExact());
    }

    /** All that it is made of, asked call by call in its order, of the ordinary book and of the full one. */
    private static void order() {
        for (boolean isFull : new boolean[] {false, true}) {
            List<Long> xs = new ArrayList<>();
            for (int part = 0; part < 4; part++) {
                ask(xs, part, new Real[] {filled(isFull), filled(isFull), filled(isFull), filled(isFull)});
            }
            Real h = filled(isFull);
            String told = isFull ? ", the full book" : ", the ordinary book";
            C.is("28: how many numbers" + told, xs.size() > 150, true);
            C.is("28: in their order" + told, h.digest(), wrapped(array(xs)));
            C.is("28: and once more" + told, h.digest(), wrapped(array(xs)));
        }
    }

    private static Real filled(boolean isFull) {
        Real h = new Real();
        if (isFull) {
            Sample.fillUp(h);
        } else {
            Sample.fill(h);
        }
        return h;
    }

    private static long[] array(List<Long> xs) {
        long[] numbers = new long[xs.size()];
        for (int k = 0; k < numbers.length; k++) {
            numbers[k] = xs.get(k);
        }
        return numbers;
    }

    /** The books are all alike: none of them can be asked all of it within its 512 calls. */
    private static void ask(List<Long> xs, int part, Real[] books) {
        Real h = books[0];
        if (part == 0) {
            for (int what = 0; what <= 3; what++) {
                xs.add((long) h.many(what));
            }
            for (int p = 0; p < h.many(0); p++) {
                for (int what = 0; what <= 5; what++) {
                    xs.add((long) h.ofProject(p, what));
                }
                xs.add((long) h.overOn(p));
            }
        } else if (part == 1) {
            for (int r = 0; r < h.many(1); r++) {
                xs.add((long) h.without(r));
            }
        } else if (part == 2) {
            entries(xs, books);
        } else {
            for (int b = 0; b < h.many(3); b++) {
                bill(xs, b, books[b % 4]);
            }
        }
    }

    private static void entries(List<Long> xs, Real[] books) {
        for (int e = 0; e < 60; e++) {
            int entry = e;
            Real h = books[e % 4];
            if (Check.outcome(() -> h.ofEntry(entry, 0)).startsWith("throws.")) {
                continue;
            }
            for (int what = 0; what <= 10; what++) {
                xs.add((long) h.ofEntry(e, what));
            }
            int first = h.ofEntry(e, 4);
            xs.add((long) h.rate(e, first));
            xs.add((long) h.why(e, first));
        }
    }

    private static void bill(List<Long> xs, int b, Real h) {
        for (int what = 0; what <= 7; what++) {
            xs.add((long) h.ofBill(b, what));
        }
        int lines = h.ofBill(b, 1);
        for (int line = 0; line < lines; line++) {
            for (int what = 0; what <= 3; what++) {
                xs.add((long) h.line(b, line, what));
            }
        }
    }
}
