/** The sentences of 'Terms' that tell how it is counted: what is cut and rounded, and where something begins and ends. */
public final class TermsTest {
    private static final Check C = new Check("TermsTest");
    private static final int[] STEPS = {1, 5, 6, 10, 15, 30};

    public static void main(String[] args) {
        cut();
        mostOfARate();
        firstFix();
        amountsToTheNearest();
        amountsByParts();
        manyParts();
        roundedLengths();
        lessToTheNearest();
        taxToTheNearest();
        termsAtTheirEnds();
        daysOfRest();
        lastOfAllNumbers();
        minutesOfARule();
        minutesOfAnEntry();
        atFirst();
        inCommon();
        gone();
        C.end();
    }

    private static Real plain(int rate) {
        Real h = new Real();
        h.project(0, false);
        h.rule(true, rate);
        return h;
    }

    // ---- rates

    /** The rate of a minute that a FIX meets, and behind it each PLUS. */
    private static int rate(int fix, int... percents) {
        Real h = plain(fix);
        for (int p : percents) {
            h.rule(false, p);
        }
        h.entry(0, 0, 0, 0, 0, 1);
        return h.rate(0, 0);
    }

    private static void cut() {
        C.is("99 and 1 percent", rate(99, 1), 99);
        C.is("100 and 1 percent", rate(100, 1), 101);
        C.is("199 and 1 percent", rate(199, 1), 200);
        C.is("1 and 200 percent", rate(1, 200), 3);
        C.is("1 less 1 percent, cut towards 0", rate(1, -1), 1);
        C.is("1 less 50 percent, cut towards 0", rate(1, -50), 1);
        C.is("1 less 90 percent, cut towards 0", rate(1, -90), 1);
        C.is("2 less 50 percent", rate(2, -50), 1);
        C.is("3 less 50 percent, cut towards 0", rate(3, -50), 2);
        C.is("199 less 1 percent, cut towards 0", rate(199, -1), 198);
        C.is("111 less 90 percent, cut towards 0", rate(111, -90), 12);
        C.is("10 less 90 percent", rate(10, -90), 1);
        C.is("50000 less 90 percent", rate(50000, -90), 5000);
        C.is("0 percent", rate(50000, 0), 50000);
        C.is("each by what is behind the one ahead", rate(7, 50, -50), 5);
        C.is("in their order", rate(7, -50, 50), 6);
        C.is("not by their sum", rate(10000, 100, 100), 40000);
        C.is("nine of them", rate(1000, 10, 10, 10, 10, 10, 10, 10, 10, 10), 2356);
    }

    private static void mostOfARate() {
        C.is("just the most", rate(50000, 100, 150, 100), 500000);
        C.is("one percent less", rate(50000, 100, 150, 99), 497500);
        C.is("one percent more", rate(50000, 100, 150, 101), 500000);
        C.is("still the most", rate(50000, 100, 150, 100, 1), 500000);
        C.is("behind each, not at the end", rate(50000, 200, 200, 200, -50), 250000);
        C.is("the most nine times", rate(50000, 200, 200, 200, 200, 200, 200, 200, 200, 200), 500000);
        C.is("and down again", rate(50000, 200, 200, 200, 200, -90, -90, -90, -90, -90), 5);
    }

    private static void firstFix() {
        Real h = new Real();
        h.project(0, false);
        h.entry(0, 0, 0, 0, 0, 2);
        C.is("no rule", h.rate(0, 0) + h.why(0, 0), 0);
        h.rule(false, 200);
        C.is("0 without a FIX", h.rate(0, 0), 0);
        C.is("a PLUS is a reason, also of 0", h.why(0, 0), 1);
        h.rule(true, 100);
        C.is("a PLUS that stands ahead of the FIX", h.rate(0, 0), 300);
        h.rule(true, 900);
        C.is("the first FIX, not the last one", h.rate(0, 0), 300);
        h.time(1, 0, 364, 0, 1, 2);
        C.is("the first FIX that meets it", h.rate(0, 0), 2700);
        C.is("at the next minute it is another one", h.rate(0, 1), 300);
        C.is("with its reasons", h.why(0, 0) * 10 + h.why(0, 1), 53);
        h.time(2, 0, 364, 0, 1, 2);
        C.is("0 where none meets it", h.rate(0, 0), 0);
        h.dropRule(1);
        C.is("the next one is the first then", h.rate(0, 1), 2700);
        h.dropRule(1);
        h.rule(true, 0);
        h.rule(true, 50000);
        C.is("a FIX of 0 is a FIX", h.rate(0, 0), 0);
        C.is("a FIX of 0 is a reason", h.why(0, 0), 3);
    }

    // ---- amounts

    private static void amountsToTheNearest() {
        int[][] due = {{1, 1, 0}, {1, 29, 0}, {1, 30, 1}, {1, 31, 1}, {1, 89, 1}, {1, 90, 2}, {1, 91, 2}, {1, 1440, 24},
            {7, 4, 0}, {7, 5, 1}, {59, 1, 1}, {29, 1, 0}, {30, 1, 1}, {89, 1, 1}, {90, 1, 2}, {0, 1440, 0},
            {60, 1, 1}, {50000, 1, 833}, {50000, 2, 1667}, {50000, 1440, 1200000}};
        for (int[] d : due) {
            Real h = plain(d[0]);
            h.entry(0, 0, 0, 0, 0, d[1]);
            C.is("the amount of " + d[1] + " minutes at " + d[0] + " an hour", h.ofEntry(0, 7), d[2]);
        }
    }

    private static void amountsByParts() {
        Real h = plain(7);
        h.time(0, 0, 364, 0, 0, 10);
        h.entry(0, 0, 0, 0, 0, 20);
        C.is("70 / 60", h.ofEntry(0, 7), 1);
        h.setStep(0, 15, 0);
        C.is("70 * 15 / 1200", h.ofEntry(0, 7), 1);
        h.setStep(0, 30, 2);
        C.is("70 * 0 / 1200", h.ofEntry(0, 7), 0);
        h.setStep(0, 30, 1);
        C.is("70 * 30 / 1200, rounded once, not twice", h.ofEntry(0, 7), 2);
        h.change(0, 9, 10);
        C.is("7 * 30 / 60, half up", h.ofEntry(0, 7), 4);
        h.change(0, 10, 11);
        C.is("nothing at a minute without a rate", h.ofEntry(0, 7), 0);
        h.change(0, 9, 11);
        C.is("7 * 30 / 120", h.ofEntry(0, 7), 2);
        C.is("a sum of the rates as they are cut", cutParts(), 3);
        Real most = plain(50000);
        most.rule(false, 200);
        most.rule(false, 200);
        most.rule(false, 200);
        most.setStep(0, 30, 1);
        most.entry(0, 0, 0, 0, 0, 1440);
        most.entry(0, 0, 0, 1, 0, 1);
        C.is("the greatest amount", most.ofEntry(0, 7), 12000000);
        C.is("the greatest for a minute", most.ofEntry(1, 7), 250000);
    }

    /** 60 minutes at 3 less 50 percent: 2 for each, and 60 at 1 less 50 percent: 1 for each. */
    private static int cutParts() {
        Real h = plain(3);
        h.rule(true, 1);
        h.time(0, 0, 364, 0, 0, 60);
        h.rule(false, -50);
        h.entry(0, 0, 0, 0, 0, 120);
        return h.ofEntry(0, 7);
    }

    /** Ten rules, each of which begins and ends inside of the entry at minutes of its own: 21 rates. */
    private static void manyParts() {
        Real h = new Real();
        h.project(0, false);
        h.entry(0, 0, 0, 0, 100, 1400);
        int due = 0;
        for (int k = 0; k < 10; k++) {
            h.rule(true, 60 * (k + 1));
            h.time(k, 0, 364, 0, 200 + 100 * k, 210 + 100 * k + k);
            due += (10 + k) * (k + 1);
        }
        C.is("one rule behind the other", h.ofEntry(0, 7), due);
        C.is("without the last one", h.without(9), -190);
        for (int k = 0; k < 10; k++) {
            h.time(k, 0, 364, 0, 700 - 10 * k, 710 + 20 * k);
        }
        due = 10;
        for (int k = 1; k < 10; k++) {
            due += 30 * (k + 1);
        }
        C.is("one rule around the other", h.ofEntry(0, 7), due);
        C.is("without the one that is around all", h.without(9), -300);
        C.is("without the one inside of all", h.without(0), 10);
    }

    private static void roundedLengths() {
        int[] lengths = new int[75];
        for (int k = 0; k < lengths.length; k++) {
            lengths[k] = k < 65 ? k + 1 : 1366 + k;
        }
        for (int step : STEPS) {
            for (int way = 0; way <= 2; way++) {
                Real h = plain(60);
                h.setStep(0, step, way);
                h.entry(0, 0, 0, 0, 0, 1);
                for (int length : lengths) {
                    h.change(0, 0, length);
                    C.is(length + " to " + step + ", way " + way, h.ofEntry(0, 6), rounded(length, step, way));
                }
            }
        }
    }

    /** By trying each number: the nearest multiple, of two the greater one; or not less; or not more. */
    private static int rounded(int length, int step, int way) {
        int best = -1000000;
        for (int x = 0; x <= 1500; x++) {
            if (x % step != 0 || way == 1 && x < length || way == 2 && x > length) {
                continue;
            }
            if (Math.abs(x - length) <= Math.abs(best - length)) {
                best = x;
            }
        }
        return best;
    }

    // ---- terms

    /** A book in which a correction of that many cents is all that can be billed. */
    private static Real owed(int net) {
        Real h = plain(10000);
        h.entry(0, 0, 0, 0, 0, 60);
        h.bill(0, 0);
        h.dropRule(0);
        h.rule(true, 10000 + net);
        C.is("a correction of " + net, h.change(0, 0, 60), net);
        return h;
    }

    private static void terms(int net, int discount, int tax, int less, int taxInAll) {
        String told = net + " less " + discount + " percent, tax " + tax + " percent";
        Real h = owed(net);
        h.setTerms(0, discount, tax);
        C.is(told + ", what would be", h.wouldBill(0, 0), net - less + taxInAll);
        h.bill(0, 0);
        C.is(told + ", NET", h.ofBill(1, 2), net);
        C.is(told + ", LESS", h.ofBill(1, 3), less);
        C.is(told + ", TAX IN ALL", h.ofBill(1, 4), taxInAll);
        C.is(told + ", TOTAL", h.ofBill(1, 5), net - less + taxInAll);
        C.is(told + ", CORRECTIONS", h.ofBill(1, 6), net);
    }

    private static void lessToTheNearest() {
        terms(5, 10, 0, 1, 0);
        terms(4, 10, 0, 0, 0);
        terms(6, 10, 0, 1, 0);
        terms(14, 10, 0, 1, 0);
        terms(15, 10, 0, 2, 0);
        terms(25, 10, 0, 3, 0);
        terms(-5, 10, 0, 0, 0);
        terms(-4, 10, 0, 0, 0);
        terms(-6, 10, 0, -1, 0);
        terms(-10, 10, 0, -1, 0);
        terms(-14, 10, 0, -1, 0);
        terms(-15, 10, 0, -1, 0);
        terms(-16, 10, 0, -2, 0);
        terms(-25, 10, 0, -2, 0);
        terms(-1, 50, 0, 0, 0);
        terms(-1, 51, 0, -1, 0);
        terms(-1, 49, 0, 0, 0);
        terms(1, 49, 0, 0, 0);
        terms(1, 50, 0, 1, 0);
    }

    private static void taxToTheNearest() {
        terms(5, 0, 10, 0, 1);
        terms(4, 0, 10, 0, 0);
        terms(15, 0, 10, 0, 2);
        terms(-5, 0, 10, 0, 0);
        terms(-6, 0, 10, 0, -1);
        terms(-15, 0, 10, 0, -1);
        terms(-16, 0, 10, 0, -2);
        terms(10, 50, 10, 5, 1);
        terms(-10, 50, 10, -5, 0);
        terms(-30, 50, 10, -15, -1);
        terms(-9995, 1, 1, -100, -99);
    }

    private static void termsAtTheirEnds() {
        terms(0, 100, 100, 0, 0);
        terms(0, 50, 50, 0, 0);
        terms(777, 0, 0, 0, 0);
        terms(777, 100, 0, 777, 0);
        terms(777, 100, 100, 777, 0);
        terms(777, 0, 100, 0, 777);
        terms(-777, 100, 100, -777, 0);
        terms(-777, 0, 100, 0, -777);
        terms(777, 99, 99, 769, 8);
        terms(777, 1, 1, 8, 8);
        terms(40000, 100, 0, 40000, 0);
        terms(-10000, 0, 100, 0, -10000);
    }

    // ---- where something begins and ends

    private static void daysOfRest() {
        int[] days = {0, 1, 4, 5, 6, 7, 11, 12, 13, 14, 180, 181, 182, 360, 361, 362, 363, 364};
        boolean[] isRest = {false, false, false, true, true, false, false, true, true, false, true, true, false, false,
            false, true, true, false};
        for (int k = 0; k < days.length; k++) {
            Real h = plain(60);
            h.entry(0, 0, 0, days[k], 0, 1);
            C.is("all, day " + days[k], h.why(0, 0), 1);
            h.time(0, 0, 364, 1, 0, 1440);
            C.is("no days of rest, day " + days[k], h.why(0, 0), isRest[k] ? 0 : 1);
            h.time(0, 0, 364, 2, 0, 1440);
            C.is("only days of rest, day " + days[k], h.why(0, 0), isRest[k] ? 1 : 0);
            h.time(0, days[k], days[k], isRest[k] ? 2 : 1, 0, 1440);
            C.is("that day alone, day " + days[k], h.why(0, 0), 1);
            h.time(0, days[k], days[k], isRest[k] ? 1 : 2, 0, 1440);
            C.is("that day, but of the other sort, day " + days[k], h.why(0, 0), 0);
        }
    }

    /** Rules for the last of the people, projects, kinds, days and minutes, and entries beside each of these. */
    private static void lastOfAllNumbers() {
        Real h = new Real();
        for (int p = 0; p < 6; p++) {
            h.project(0, false);
        }
        h.rule(true, 60);
        h.aim(0, 5, 5, 3);
        h.time(0, 364, 364, 0, 1439, 1440);
        h.entry(5, 5, 3, 364, 1439, 1440);
        h.entry(4, 5, 3, 364, 1439, 1440);
        h.entry(5, 4, 3, 364, 1438, 1439);
        h.entry(5, 5, 2, 363, 1439, 1440);
        C.is("the last of all", h.rate(0, 1439), 60);
        C.is("the person ahead of it", h.rate(1, 1439), 0);
        C.is("the project and the minute ahead of it", h.rate(2, 1438), 0);
        C.is("the kind and the day ahead of it", h.rate(3, 1439), 0);
        h.aim(0, 0, 0, 0);
        h.time(0, 0, 0, 0, 0, 1);
        h.entry(0, 0, 0, 0, 0, 1);
        h.entry(1, 0, 0, 0, 0, 1);
        h.entry(0, 1, 0, 0, 1, 2);
        h.entry(0, 0, 1, 1, 0, 1);
        C.is("the first of all", h.rate(4, 0), 60);
        C.is("the person behind it", h.rate(5, 0), 0);
        C.is("the project and the minute behind it", h.rate(6, 1), 0);
        C.is("the kind and the day behind it", h.rate(7, 0), 0);
        C.is("none but the first", h.why(0, 1439), 0);
    }

    private static void minutesOfARule() {
        Real h = plain(60);
        h.entry(0, 0, 0, 10, 0, 1440);
        int[][] due = {{0, 1, 1}, {0, 2, 2}, {1439, 1440, 1}, {1438, 1440, 2}, {0, 1440, 1440}, {0, 1439, 1439},
            {1, 1440, 1439}, {600, 660, 60}};
        for (int[] d : due) {
            h.time(0, 10, 10, 0, d[0], d[1]);
            String told = "from " + d[0] + " ahead of " + d[1];
            C.is(told, h.ofEntry(0, 7), d[2]);
            C.is(told + ", its first minute", h.rate(0, d[0]), 60);
            C.is(told + ", its last minute", h.rate(0, d[1] - 1), 60);
            if (d[0] > 0) {
                C.is(told + ", the minute ahead of it", h.rate(0, d[0] - 1), 0);
            }
            if (d[1] < 1440) {
                C.is(told + ", the minute behind it", h.rate(0, d[1]), 0);
            }
        }
        h.time(0, 11, 364, 0, 0, 1440);
        C.is("the day ahead of the first", h.ofEntry(0, 7), 0);
        h.time(0, 0, 9, 0, 0, 1440);
        C.is("the day behind the last", h.ofEntry(0, 7), 0);
        h.time(0, 10, 364, 0, 0, 1440);
        C.is("the first day", h.ofEntry(0, 7), 1440);
        h.time(0, 0, 10, 0, 0, 1440);
        C.is("the last day", h.ofEntry(0, 7), 1440);
    }

    private static void minutesOfAnEntry() {
        Real h = plain(60);
        h.entry(0, 0, 0, 0, 0, 1);
        h.entry(0, 0, 0, 0, 1439, 1440);
        h.entry(0, 0, 0, 1, 0, 1440);
        h.entry(0, 0, 0, 0, 1, 1439);
        int[] lengths = {1, 1, 1440, 1438};
        for (int k = 0; k < lengths.length; k++) {
            C.is("the LENGTH of entry " + k, h.ofEntry(k, 5) - h.ofEntry(k, 4), lengths[k]);
            C.is("ROUNDED of entry " + k, h.ofEntry(k, 6), lengths[k]);
            C.is("the AMOUNT of entry " + k, h.ofEntry(k, 7), lengths[k]);
        }
        C.is("the sum of the LENGTHS", h.ofProject(0, 0), 2880);
        C.is("on one day", h.worked(0, 0, 0), 1440);
    }

    private static void atFirst() {
        Real h = new Real();
        h.project(0, false);
        h.project(1, false);
        h.project(1, true);
        for (int p = 0; p < 3; p++) {
            C.is("the STEP at first", h.setStep(p, 1, 0), 1);
            C.is("the DISCOUNT at first", h.setTerms(p, 0, 0), 0);
        }
        Real fresh = new Real();
        fresh.project(0, false);
        fresh.rule(true, 6000);
        fresh.entry(0, 0, 0, 0, 0, 1);
        C.is("STEP 1 and no TAX at first", fresh.wouldBill(0, 0), 100);
        fresh.setStep(0, 30, 0);
        C.is("WAY 0 with the STEP, when it is set so", fresh.ofEntry(0, 6), 0);
        C.is("the BUDGET at first is what it was made with", h.setBudget(2, 0, false), 1);
        C.is("the BUDGET is none", h.setBudget(2, 0, true), 0);
        C.is("of another one", h.setBudget(0, 0, true), 0);
    }

    private static void inCommon() {
        int[][] apart = {{0, 0, 540, 541}, {0, 0, 0, 540}, {0, 0, 600, 601}, {0, 0, 600, 1440}, {1, 0, 540, 600},
            {5, 0, 0, 1440}, {0, 1, 540, 600}, {0, 364, 0, 1440}};
        for (int k = 0; k < apart.length; k++) {
            int[] a = apart[k];
            Real h = plain(60);
            h.entry(0, 0, 0, 0, 540, 600);
            boolean isFirst = k == 0;
            C.is("10: entry " + k, Check.outcome(() -> h.entry(a[0], 0, 0, a[1], a[2], a[3])),
                    isFirst ? "throws.java.lang.IllegalStateException" : "1");
            h.entry(2, 0, 0, 0, 0, 1);
            C.is("11: over its own minutes", h.change(0, 570, 600), 0);
            C.is("11: and further", h.change(0, 541, 599), 0);
        }
        Real h = plain(60);
        h.entry(0, 0, 0, 0, 0, 10);
        h.entry(0, 0, 1, 0, 10, 20);
        h.entry(0, 0, 2, 0, 20, 30);
        C.is("10: one between two", h.many(2), 3);
        C.state("11: a minute of the one ahead", () -> h.change(1, 9, 20));
        C.state("11: a minute of the one behind", () -> h.change(1, 10, 21));
        C.is("11: just what it has", h.change(1, 10, 20), 0);
        h.take(0);
        C.is("11: a minute of one that is gone", h.change(1, 0, 20), 0);
        C.is("10: which is of the person", Check.outcome(() -> h.entry(0, 0, 0, 0, 0, 1)),
                "throws.java.lang.IllegalStateException");
    }

    /** A book in which one is gone answers as a book in which it never was. */
    private static void gone() {
        Real had = new Real();
        Real never = new Real();
        for (Real h : new Real[] {had, never}) {
            h.project(7000, true);
            h.rule(true, 6000);
            h.rule(false, 10);
            h.entry(0, 0, 0, 1, 0, 60);
        }
        had.entry(0, 0, 1, 0, 0, 600);
        had.take(1);
        for (Real h : new Real[] {had, never}) {
            h.entry(0, 0, 0, 2, 0, 30);
            C.is("many", h.many(2), 2);
            C.is("worked", h.worked(0, 0, 364), 90);
            int[] due = {90, 7000, 7000, 0, 1, 0};
            for (int what = 0; what < due.length; what++) {
                C.is("ofProject " + what, h.ofProject(0, what), due[what]);
            }
            C.is("wouldBill", h.wouldBill(0, 364), 7000);
            C.is("wouldBill of its day", h.wouldBill(0, 0), 0);
            C.is("without", h.without(1), -900);
            C.is("amountsWith", h.amountsWith(1, 0), 9000);
            C.is("overOn", h.overOn(0), 2);
            C.is("meanRate", h.meanRate(), 6600.0);
            C.state("nothing to bill on its day", () -> h.bill(0, 0));
            C.is("bill", h.bill(0, 364), 0);
            C.is("lines", h.ofBill(0, 1), 1);
            C.is("takeBack", h.takeBack(0), 2);
        }
        C.index("no facts", () -> had.ofEntry(1, 0));
        C.index("no change", () -> had.change(1, 0, 1));
        C.index("not taken twice", () -> had.take(1));
    }
}
