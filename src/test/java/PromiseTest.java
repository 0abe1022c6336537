/** Each promise by its number: ordinary inputs, the edges that the document names, and wrong inputs. */
public final class PromiseTest {
    private static final int MIN = Integer.MIN_VALUE;
    private static final int MAX = Integer.MAX_VALUE;
    private static final Check C = new Check("PromiseTest");

    public static void main(String[] args) {
        newObject();
        project();
        setBudget();
        setStep();
        setTerms();
        rule();
        aim();
        time();
        dropRule();
        entry();
        change();
        changeOfBilled();
        take();
        many();
        ofEntry();
        amounts();
        charges();
        rate();
        why();
        ofProject();
        worked();
        bill();
        billLimit();
        takeBack();
        takeBackOfCorrections();
        ofBill();
        ofBillBelowNothing();
        line();
        wouldBill();
        without();
        amountsWith();
        overOn();
        meanRate();
        digest();
        lastOfAll();
        manyCorrections();
        throwingChangesNothing();
        C.end();
    }

    /** One project without a budget, and one rule of 6000 for an hour: 100 for a minute. */
    private static Real plain() {
        Real h = new Real();
        h.project(0, false);
        h.rule(true, 6000);
        return h;
    }

    private static void newObject() {
        Real h = new Real();
        for (int what = 0; what <= 3; what++) {
            C.is("1: many(" + what + ") of a new book", h.many(what), 0);
        }
        C.index("1: no project 0", () -> h.overOn(0));
        C.is("1: meanRate of a new book", h.meanRate(), 0.0);
        C.is("1: digest of a new book", h.digest(), 58079L * 31 * 31 * 31 * 31);
        Real other = new Real();
        other.project(0, false);
        C.is("1: books have nothing in common", h.many(0), 0);
    }

    private static void project() {
        Real h = new Real();
        C.argument("2: budget -1", () -> h.project(-1, false));
        C.argument("2: budget 10000001", () -> h.project(10000001, true));
        C.is("2: none is there yet", h.many(0), 0);
        C.is("2: the first", h.project(0, false), 0);
        C.is("2: the second", h.project(10000000, true), 1);
        for (int k = 2; k < 6; k++) {
            C.is("2: project " + k, h.project(k, false), k);
        }
        C.state("2: a seventh", () -> h.project(0, false));
        C.argument("2: a seventh with a wrong budget", () -> h.project(MIN, false));
        C.is("2: six are there", h.many(0), 6);
        h.rule(true, 6000);
        h.entry(0, 1, 0, 0, 0, 60);
        C.is("2: its budget counts", h.ofProject(1, 3), 9994000);
        C.is("2: at first the step is 1", h.setStep(0, 5, 0), 1);
        C.is("2: at first the discount is 0", h.setTerms(0, 5, 5), 0);
        h.entry(0, 0, 0, 1, 0, 7);
        h.setStep(0, 1, 0);
        h.setTerms(0, 0, 0);
        C.is("2: step 1 does not round", h.ofEntry(1, 6), 7);
        C.is("2: hard at once", hardCharge(true), 1000);
        C.is("2: not hard", hardCharge(false), 6000);
    }

    private static int hardCharge(boolean isHard) {
        Real h = new Real();
        h.project(1000, isHard);
        h.rule(true, 6000);
        h.entry(0, 0, 0, 0, 0, 60);
        return h.ofEntry(0, 8);
    }

    private static void setBudget() {
        Real h = plain();
        h.entry(0, 0, 0, 0, 0, 60);
        C.index("3: project -1", () -> h.setBudget(-1, 0, true));
        C.index("3: project 1, and a wrong budget", () -> h.setBudget(1, -1, true));
        C.index("3: project MAX", () -> h.setBudget(MAX, 0, true));
        C.argument("3: budget -1", () -> h.setBudget(0, -1, true));
        C.argument("3: budget 10000001", () -> h.setBudget(0, 10000001, true));
        C.is("3: the budget before", h.setBudget(0, 2500, true), 0);
        C.is("3: hard now", h.ofEntry(0, 8), 2500);
        C.is("3: the budget before again", h.setBudget(0, 2500, false), 2500);
        C.is("3: not hard now", h.ofEntry(0, 8), 6000);
        C.is("3: 10000000", h.setBudget(0, 10000000, true), 2500);
        C.is("3: 0 is none, also if it is hard", h.setBudget(0, 0, true), 10000000);
        C.is("3: without a budget", h.ofEntry(0, 8), 6000);
        C.is("3: without a budget nothing is over", h.ofEntry(0, 9), 0);
    }

    private static void setStep() {
        Real h = plain();
        h.entry(0, 0, 0, 0, 0, 15);
        C.index("4: project 1, and a wrong step", () -> h.setStep(1, 2, 0));
        C.index("4: project -1", () -> h.setStep(-1, 5, 0));
        for (int step : new int[] {MIN, -1, 0, 2, 3, 4, 7, 9, 11, 14, 20, 29, 31, 60, MAX}) {
            C.argument("4: step " + step, () -> h.setStep(0, step, 0));
        }
        C.argument("4: way -1", () -> h.setStep(0, 5, -1));
        C.argument("4: way 3", () -> h.setStep(0, 5, 3));
        int before = 1;
        for (int step : new int[] {5, 6, 10, 15, 30, 1}) {
            C.is("4: the step before " + step, h.setStep(0, step, 2), before);
            before = step;
        }
        rounds(h, "30 nearest", 30, 0, new int[] {1, 14, 15, 29, 30, 44, 45, 46, 1440},
                new int[] {0, 0, 30, 30, 30, 30, 60, 60, 1440});
        rounds(h, "30 up", 30, 1, new int[] {1, 29, 30, 31, 1439, 1440}, new int[] {30, 30, 30, 60, 1440, 1440});
        rounds(h, "30 down", 30, 2, new int[] {1, 29, 30, 31, 59, 1439}, new int[] {0, 0, 30, 30, 30, 1410});
        rounds(h, "15 nearest", 15, 0, new int[] {7, 8, 22, 23}, new int[] {0, 15, 15, 30});
        rounds(h, "10 nearest", 10, 0, new int[] {4, 5, 14, 15}, new int[] {0, 10, 10, 20});
        rounds(h, "6 nearest", 6, 0, new int[] {2, 3, 8, 9}, new int[] {0, 6, 6, 12});
        rounds(h, "5 nearest", 5, 0, new int[] {2, 3, 7, 8}, new int[] {0, 5, 5, 10});
        rounds(h, "5 up", 5, 1, new int[] {1, 5, 6}, new int[] {5, 5, 10});
        rounds(h, "1 of any way", 1, 1, new int[] {1, 7, 1440}, new int[] {1, 7, 1440});
    }

    private static void rounds(Real h, String title, int step, int way, int[] lengths, int[] due) {
        h.setStep(0, step, way);
        for (int k = 0; k < lengths.length; k++) {
            h.change(0, 0, lengths[k]);
            C.is("4: " + lengths[k] + " to " + title, h.ofEntry(0, 6), due[k]);
            C.is("4: the amount of " + lengths[k] + " to " + title, h.ofEntry(0, 7), due[k] * 100);
        }
    }

    private static void setTerms() {
        Real h = plain();
        h.entry(0, 0, 0, 0, 0, 100);
        C.index("5: project 1, and wrong percents", () -> h.setTerms(1, -1, 0));
        C.argument("5: discount -1", () -> h.setTerms(0, -1, 0));
        C.argument("5: discount 101", () -> h.setTerms(0, 101, 0));
        C.argument("5: tax -1", () -> h.setTerms(0, 0, -1));
        C.argument("5: tax 101", () -> h.setTerms(0, 0, 101));
        C.is("5: nothing was set", h.wouldBill(0, 0), 10000);
        C.is("5: the discount before", h.setTerms(0, 10, 20), 0);
        C.is("5: with these", h.wouldBill(0, 0), 10800);
        C.is("5: the discount before, not the tax", h.setTerms(0, 0, 100), 10);
        C.is("5: a tax of 100", h.wouldBill(0, 0), 20000);
        C.is("5: the greatest", h.setTerms(0, 100, 0), 0);
        C.is("5: a discount of 100", h.wouldBill(0, 0), 0);
    }

    private static void rule() {
        Real h = new Real();
        h.project(0, false);
        h.entry(5, 0, 3, 364, 0, 1440);
        h.entry(0, 0, 0, 0, 0, 1440);
        C.argument("6: a rate of -1", () -> h.rule(true, -1));
        C.argument("6: a rate of 50001", () -> h.rule(true, 50001));
        C.argument("6: percents of -91", () -> h.rule(false, -91));
        C.argument("6: percents of 201", () -> h.rule(false, 201));
        C.is("6: none is there yet", h.many(1), 0);
        C.is("6: the first", h.rule(true, 50000), 0);
        C.is("6: meets all at the last minute", h.rate(0, 1439), 50000);
        C.is("6: meets all at the first minute", h.rate(1, 0), 50000);
        C.is("6: percents of 200", h.rule(false, 200), 1);
        C.is("6: percents of -90", h.rule(false, -90), 2);
        C.is("6: each by what is behind the one ahead", h.rate(0, 0), 15000);
        C.is("6: a rate of 0", h.rule(true, 0), 3);
        for (int k = 4; k < 10; k++) {
            C.is("6: rule " + k, h.rule(false, 0), k);
        }
        C.state("6: an eleventh", () -> h.rule(true, 0));
        C.argument("6: an eleventh with a wrong rate", () -> h.rule(true, 50001));
        C.argument("6: an eleventh with wrong percents", () -> h.rule(false, 50000));
        C.is("6: ten are there", h.many(1), 10);
        h.dropRule(0);
        C.is("6: room again", h.rule(true, 1), 9);
    }

    private static void aim() {
        Real h = plain();
        h.project(0, false);
        h.entry(2, 1, 3, 0, 0, 60);
        C.index("7: rule 1, and a wrong person", () -> h.aim(1, 6, 0, 0));
        C.index("7: rule -1", () -> h.aim(-1, 0, 0, 0));
        C.argument("7: person -2", () -> h.aim(0, -2, 0, 0));
        C.argument("7: person 6", () -> h.aim(0, 6, 0, 0));
        C.argument("7: project -2", () -> h.aim(0, 0, -2, 0));
        C.argument("7: project 6", () -> h.aim(0, 0, 6, 0));
        C.argument("7: kind -2", () -> h.aim(0, 0, 0, -2));
        C.argument("7: kind 4", () -> h.aim(0, 0, 0, 4));
        C.is("7: nothing was set", h.rate(0, 0), 6000);
        h.rule(true, 1);
        C.is("7: its number", h.aim(1, 5, 5, 3), 1);
        h.dropRule(1);
        aimed(h, 2, -1, -1, 6000);
        aimed(h, 1, -1, -1, 0);
        aimed(h, -1, 1, -1, 6000);
        aimed(h, -1, 0, -1, 0);
        aimed(h, -1, 5, -1, 0);
        aimed(h, -1, -1, 3, 6000);
        aimed(h, -1, -1, 2, 0);
        aimed(h, 2, 1, 3, 6000);
        aimed(h, 2, 1, 0, 0);
        aimed(h, -1, -1, -1, 6000);
        h.aim(0, -1, 2, -1);
        h.project(0, false);
        h.entry(0, 2, 0, 0, 0, 60);
        C.is("7: a project that came later", h.rate(1, 0), 6000);
    }

    private static void aimed(Real h, int person, int project, int kind, int due) {
        h.aim(0, person, project, kind);
        C.is("7: aim at " + person + ", " + project + ", " + kind, h.rate(0, 0), due);
    }

    private static void time() {
        Real h = plain();
        C.index("8: rule 1, and a wrong day", () -> h.time(1, -1, 0, 0, 0, 1));
        C.argument("8: first day -1", () -> h.time(0, -1, 364, 0, 0, 1440));
        C.argument("8: first day 365", () -> h.time(0, 365, 365, 0, 0, 1440));
        C.argument("8: last day ahead of the first", () -> h.time(0, 5, 4, 0, 0, 1440));
        C.argument("8: last day 365", () -> h.time(0, 0, 365, 0, 0, 1440));
        C.argument("8: which -1", () -> h.time(0, 0, 364, -1, 0, 1440));
        C.argument("8: which 3", () -> h.time(0, 0, 364, 3, 0, 1440));
        C.argument("8: from -1", () -> h.time(0, 0, 364, 0, -1, 1440));
        C.argument("8: from 1440", () -> h.time(0, 0, 364, 0, 1440, 1441));
        C.argument("8: to is from", () -> h.time(0, 0, 364, 0, 5, 5));
        C.argument("8: to 1441", () -> h.time(0, 0, 364, 0, 0, 1441));
        C.argument("8: from MAX", () -> h.time(0, 0, 364, 0, MAX, MIN));
        h.entry(0, 0, 0, 4, 100, 200);
        h.entry(0, 0, 0, 5, 100, 200);
        h.entry(0, 0, 0, 6, 100, 200);
        h.entry(0, 0, 0, 7, 100, 200);
        onDays(h, "nothing was set", 10000, 10000, 10000, 10000);
        C.is("8: its number", h.time(0, 0, 364, 0, 0, 1440), 0);
        onDays(h, "all", 10000, 10000, 10000, 10000);
        h.time(0, 0, 364, 1, 0, 1440);
        onDays(h, "no days of rest", 10000, 0, 0, 10000);
        h.time(0, 0, 364, 2, 0, 1440);
        onDays(h, "only days of rest", 0, 10000, 10000, 0);
        h.time(0, 5, 6, 0, 0, 1440);
        onDays(h, "days 5 to 6", 0, 10000, 10000, 0);
        h.time(0, 6, 6, 2, 0, 1440);
        onDays(h, "day 6", 0, 0, 10000, 0);
        h.time(0, 7, 364, 0, 199, 200);
        onDays(h, "the last minute from day 7 on", 0, 0, 0, 100);
        h.time(0, 0, 4, 0, 0, 101);
        onDays(h, "the first minute up to day 4", 100, 0, 0, 0);
        h.time(0, 0, 364, 0, 0, 100);
        onDays(h, "ends where they begin", 0, 0, 0, 0);
        h.time(0, 0, 364, 0, 200, 1440);
        onDays(h, "begins where they end", 0, 0, 0, 0);
        h.time(0, 0, 364, 0, 150, 160);
        onDays(h, "ten minutes inside", 1000, 1000, 1000, 1000);
    }

    private static void onDays(Real h, String title, int day4, int day5, int day6, int day7) {
        int[] due = {day4, day5, day6, day7};
        for (int k = 0; k < due.length; k++) {
            C.is("8: " + title + ", day " + (4 + k), h.ofEntry(k, 7), due[k]);
        }
    }

    private static void dropRule() {
        Real h = plain();
        h.rule(true, 1200);
        h.rule(false, 50);
        h.entry(0, 0, 0, 0, 0, 60);
        C.index("9: rule 3", () -> h.dropRule(3));
        C.index("9: rule -1", () -> h.dropRule(-1));
        C.is("9: the first wins", h.rate(0, 0), 9000);
        C.is("9: two are left", h.dropRule(0), 2);
        C.is("9: those behind it moved up", h.rate(0, 0), 1800);
        C.is("9: as their numbers tell", h.why(0, 0), 3);
        C.index("9: rule 2 is no more", () -> h.dropRule(2));
        C.is("9: the last", h.dropRule(1), 1);
        C.is("9: without it", h.rate(0, 0), 1200);
        C.is("9: none is left", h.dropRule(0), 0);
        C.is("9: no rate", h.rate(0, 0), 0);
        C.index("9: none to drop", () -> h.dropRule(0));
        h.rule(true, 700);
        h.aim(0, 1, 0, 0);
        h.time(0, 5, 5, 2, 1, 2);
        h.dropRule(0);
        h.rule(true, 800);
        C.is("9: a new rule has nothing of a dropped one", h.ofEntry(0, 7), 800);
    }

    private static void entry() {
        Real h = plain();
        C.index("10: project 1, and a wrong person", () -> h.entry(6, 1, 0, 0, 0, 1));
        C.index("10: project -1", () -> h.entry(0, -1, 0, 0, 0, 1));
        C.argument("10: person -1", () -> h.entry(-1, 0, 0, 0, 0, 1));
        C.argument("10: person 6", () -> h.entry(6, 0, 0, 0, 0, 1));
        C.argument("10: kind -1", () -> h.entry(0, 0, -1, 0, 0, 1));
        C.argument("10: kind 4", () -> h.entry(0, 0, 4, 0, 0, 1));
        C.argument("10: day -1", () -> h.entry(0, 0, 0, -1, 0, 1));
        C.argument("10: day 365", () -> h.entry(0, 0, 0, 365, 0, 1));
        C.argument("10: from -1", () -> h.entry(0, 0, 0, 0, -1, 1));
        C.argument("10: from 1440", () -> h.entry(0, 0, 0, 0, 1440, 1441));
        C.argument("10: to is from", () -> h.entry(0, 0, 0, 0, 7, 7));
        C.argument("10: to 1441", () -> h.entry(0, 0, 0, 0, 7, 1441));
        C.argument("10: from MAX", () -> h.entry(0, 0, 0, 0, MAX, MIN));
        C.is("10: the first", h.entry(0, 0, 0, 0, 100, 200), 0);
        C.is("10: the last of all", h.entry(5, 0, 3, 364, 1439, 1440), 1);
        C.state("10: its last minute is taken", () -> h.entry(0, 0, 1, 0, 199, 300));
        C.state("10: its first minute is taken", () -> h.entry(0, 0, 1, 0, 0, 101));
        C.state("10: inside", () -> h.entry(0, 0, 1, 0, 150, 151));
        C.state("10: around", () -> h.entry(0, 0, 1, 0, 0, 1440));
        C.argument("10: taken, and a wrong kind", () -> h.entry(0, 0, 4, 0, 150, 151));
        C.is("10: behind it", h.entry(0, 0, 0, 0, 200, 201), 2);
        C.is("10: ahead of it", h.entry(0, 0, 0, 0, 99, 100), 3);
        C.is("10: another person", h.entry(1, 0, 0, 0, 100, 200), 4);
        C.is("10: another day", h.entry(0, 0, 0, 1, 100, 200), 5);
        h.project(0, false);
        C.state("10: another project is no way round", () -> h.entry(0, 1, 0, 0, 150, 151));
        h.take(0);
        C.is("10: one that is gone is not in the way", h.entry(0, 1, 0, 0, 100, 200), 6);
        for (int k = 7; k < 60; k++) {
            h.entry(2, 0, 0, k, 0, 1);
        }
        C.state("10: there were 60, one of them gone", () -> h.entry(3, 0, 0, 0, 0, 1));
        C.argument("10: there were 60, and a wrong day", () -> h.entry(3, 0, 0, 365, 0, 1));
        C.index("10: there were 60, and no project", () -> h.entry(3, 2, 0, 0, 0, 1));
        C.is("10: 59 are there", h.many(2), 59);
    }

    private static void change() {
        Real h = plain();
        h.entry(0, 0, 0, 0, 100, 200);
        h.entry(0, 0, 0, 0, 300, 400);
        h.entry(1, 0, 0, 0, 0, 1440);
        C.index("11: entry 3, and wrong minutes", () -> h.change(3, -1, 0));
        C.index("11: entry -1", () -> h.change(-1, 0, 1));
        C.argument("11: from -1", () -> h.change(0, -1, 5));
        C.argument("11: from 1440", () -> h.change(0, 1440, 1441));
        C.argument("11: to is from", () -> h.change(0, 350, 350));
        C.argument("11: to 1441", () -> h.change(0, 350, 1441));
        C.state("11: taken by another one", () -> h.change(0, 100, 301));
        C.is("11: nothing was changed", h.ofEntry(0, 5), 200);
        C.is("11: over its own", h.change(0, 150, 300), 0);
        C.is("11: its first minute", h.ofEntry(0, 4), 150);
        C.is("11: its end", h.ofEntry(0, 5), 300);
        C.is("11: its amount", h.ofEntry(0, 7), 15000);
        C.is("11: its day and person stay", h.ofEntry(0, 3) + h.ofEntry(0, 0), 0);
        h.take(1);
        C.is("11: one that is gone is not in the way", h.change(0, 300, 400), 0);
        C.index("11: one that is gone", () -> h.change(1, 500, 501));
    }

    private static void changeOfBilled() {
        Real h = new Real();
        h.project(5000, true);
        h.rule(true, 6000);
        h.entry(0, 0, 0, 0, 0, 60);
        h.entry(0, 0, 0, 1, 0, 60);
        h.bill(0, 0);
        C.is("11: the charge was cut", h.ofEntry(0, 8), 5000);
        C.is("11: whatever the budget", h.change(0, 0, 90), 4000);
        C.is("11: the new charge", h.ofEntry(0, 8), 9000);
        C.is("11: a billed one is never over", h.ofEntry(0, 9), 0);
        C.is("11: it is still billed", h.ofEntry(0, 10), 0);
        C.is("11: the bill has what it had", h.ofBill(0, 2), 5000);
        C.is("11: what waits", h.ofProject(0, 5), 4000);
        C.is("11: nothing is left for others", h.ofEntry(1, 8), 0);
        C.is("11: the new charge less the old one", h.change(0, 0, 10), -8000);
        C.is("11: both wait", h.ofProject(0, 5), -4000);
        C.is("11: there is room again", h.ofEntry(1, 8), 4000);
        h.amountsWith(0, 3000);
        h.dropRule(0);
        h.rule(true, 3000);
        C.is("11: a billed charge stays with other rules", h.ofEntry(0, 8), 1000);
        C.is("11: the same minutes, by the rules as they are", h.change(0, 0, 10), -500);
        C.is("11: the same once more", h.change(0, 0, 10), 0);
        h.setStep(0, 30, 1);
        C.is("11: by the step as it is", h.change(0, 0, 10), 1000);
    }

    private static void take() {
        Real h = plain();
        h.entry(0, 0, 0, 0, 0, 60);
        h.entry(0, 0, 0, 1, 0, 60);
        h.entry(0, 0, 0, 2, 0, 60);
        C.index("12: entry 3", () -> h.take(3));
        C.index("12: entry -1", () -> h.take(-1));
        C.index("12: entry 60", () -> h.take(60));
        h.bill(0, 0);
        C.state("12: it is billed", () -> h.take(0));
        C.is("12: two are left", h.take(1), 2);
        C.index("12: it is gone", () -> h.take(1));
        C.index("12: of which nothing is told", () -> h.ofEntry(1, 0));
        C.is("12: it has no length", h.ofProject(0, 0), 120);
        C.is("12: it has no charge", h.ofProject(0, 1), 12000);
        C.is("12: it is not worked", h.worked(0, 0, 364), 120);
        C.is("12: it is not billed", h.wouldBill(0, 1), 0);
        C.state("12: it is no ground for a bill", () -> h.bill(0, 1));
        C.is("12: the mean is without it", h.without(0), -12000);
        h.takeBack(0);
        C.is("12: not billed any more", h.take(0), 1);
        C.is("12: the numbers of the others stay", h.ofEntry(2, 3), 2);
        C.is("12: none is left", h.take(2), 0);
    }

    private static void many() {
        Real h = plain();
        C.argument("13: what -1", () -> h.many(-1));
        C.argument("13: what 4", () -> h.many(4));
        h.project(0, false);
        h.project(0, false);
        h.rule(true, 0);
        h.entry(0, 0, 0, 0, 0, 60);
        h.entry(0, 0, 0, 1, 0, 60);
        h.entry(0, 0, 0, 2, 0, 60);
        h.entry(0, 0, 0, 3, 0, 60);
        h.entry(0, 0, 0, 4, 0, 60);
        h.take(2);
        h.bill(0, 0);
        h.takeBack(0);
        C.is("13: projects", h.many(0), 3);
        C.is("13: rules", h.many(1), 2);
        C.is("13: entries that are not gone", h.many(2), 4);
        C.is("13: bills ever, one taken back", h.many(3), 1);
    }

    private static void ofEntry() {
        Real h = new Real();
        h.project(0, false);
        h.project(5000, false);
        h.rule(true, 6000);
        h.setStep(1, 15, 1);
        h.entry(0, 0, 0, 0, 0, 1);
        h.entry(4, 1, 3, 200, 600, 661);
        C.index("14: entry 2, and a wrong what", () -> h.ofEntry(2, 11));
        C.index("14: entry -1", () -> h.ofEntry(-1, 0));
        C.index("14: entry 60", () -> h.ofEntry(60, 0));
        C.argument("14: what -1", () -> h.ofEntry(1, -1));
        C.argument("14: what 11", () -> h.ofEntry(1, 11));
        facts(h, "not billed", new int[] {4, 1, 3, 200, 600, 661, 75, 7500, 7500, 1, -1});
        h.bill(0, 0);
        h.bill(1, 200);
        facts(h, "billed", new int[] {4, 1, 3, 200, 600, 661, 75, 7500, 7500, 0, 1});
        h.setStep(1, 30, 1);
        h.rule(false, 10);
        facts(h, "billed, and rounded and paid otherwise since",
                new int[] {4, 1, 3, 200, 600, 661, 90, 9900, 7500, 0, 1});
    }

    private static void facts(Real h, String title, int[] due) {
        for (int what = 0; what < due.length; what++) {
            C.is("14: ofEntry(1, " + what + ") " + title, h.ofEntry(1, what), due[what]);
        }
    }

    private static void amounts() {
        Real h = new Real();
        h.project(0, false);
        h.rule(true, 1);
        h.entry(0, 0, 0, 0, 0, 30);
        C.is("14: half a cent is a cent", h.ofEntry(0, 7), 1);
        h.change(0, 0, 29);
        C.is("14: less is none", h.ofEntry(0, 7), 0);
        h.change(0, 0, 90);
        C.is("14: one and a half are two", h.ofEntry(0, 7), 2);
        h.dropRule(0);
        h.rule(true, 6000);
        h.rule(true, 50000);
        h.time(0, 0, 364, 0, 0, 50);
        h.time(1, 0, 364, 0, 40, 70);
        h.rule(false, 100);
        h.time(2, 0, 364, 0, 60, 65);
        h.change(0, 30, 80);
        C.is("14: the sum over the minutes", h.ofEntry(0, 7), (20 * 6000 + 25 * 50000) / 60);
        h.setStep(0, 30, 0);
        C.is("14: times rounded, by its length", h.ofEntry(0, 7), (20 * 6000 + 25 * 50000) * 60 / (60 * 50));
        parts();
        Real most = new Real();
        most.project(0, false);
        most.rule(true, 50000);
        for (int k = 0; k < 9; k++) {
            most.rule(false, 200);
        }
        most.entry(0, 0, 0, 0, 0, 1440);
        C.is("14: the greatest amount", most.ofEntry(0, 7), 12000000);
        for (int day = 1; day < 60; day++) {
            most.entry(0, 0, 0, day, 0, 1440);
        }
        most.setTerms(0, 0, 100);
        C.is("14: the greatest sum", most.ofProject(0, 1), 720000000);
        C.is("14: the greatest total", most.wouldBill(0, 364), 1440000000);
        C.is("14: the greatest loss", most.without(0), -720000000);
        C.is("14: the greatest mean", most.meanRate(), 500000.0);
    }

    /** Ten rules that all begin and end inside of one entry, each at a minute of its own: 21 rates. */
    private static void parts() {
        Real h = new Real();
        h.project(0, false);
        h.entry(0, 0, 0, 0, 0, 1440);
        for (int k = 0; k < 10; k++) {
            h.rule(true, 600 * (k + 1));
            h.time(k, 0, 364, 0, 100 - 10 * k, 101 + 10 * k);
        }
        int due = 10;
        for (int k = 1; k < 10; k++) {
            due += 20 * 10 * (k + 1);
        }
        C.is("14: as many rates as there can be", h.ofEntry(0, 7), due);
        for (int k = 0; k < 10; k++) {
            h.time(k, 0, 364, 0, 1100 + 20 * k, 1110 + 20 * k);
        }
        C.is("14: one behind the other", h.ofEntry(0, 7), 10 * 10 * 55);
        C.is("14: each of them counts", h.without(9), -1000);
    }

    private static void charges() {
        Real h = new Real();
        h.project(10000, true);
        h.rule(true, 6000);
        h.entry(3, 0, 0, 2, 600, 660);
        h.entry(2, 0, 0, 2, 600, 660);
        h.entry(5, 0, 0, 2, 599, 600);
        h.entry(5, 0, 0, 1, 1000, 1010);
        C.is("14: the day comes first", h.ofEntry(3, 8), 1000);
        C.is("14: then the minute", h.ofEntry(2, 8), 100);
        C.is("14: then the person", h.ofEntry(1, 8), 6000);
        C.is("14: what is left", h.ofEntry(0, 8), 2900);
        C.is("14: over", h.ofEntry(0, 9), 1);
        C.is("14: not over", h.ofEntry(1, 9), 0);
        h.setBudget(0, 13100, true);
        C.is("14: just enough", h.ofEntry(0, 8), 6000);
        C.is("14: just enough is not over", h.ofEntry(0, 9), 0);
        h.setBudget(0, 13099, true);
        C.is("14: a cent is missing", h.ofEntry(0, 8), 5999);
        C.is("14: a cent is missing, over", h.ofEntry(0, 9), 1);
        h.setBudget(0, 13099, false);
        C.is("14: not hard, the whole amount", h.ofEntry(0, 8), 6000);
        C.is("14: not hard, over", h.ofEntry(0, 9), 1);
        h.setBudget(0, 50, true);
        C.is("14: nothing is left", h.ofEntry(0, 8), 0);
        C.is("14: over by the whole amount", h.ofProject(0, 4), 4);
        h.setBudget(0, 1050, true);
        C.is("14: one that is cut leaves nothing", h.ofEntry(2, 8), 50);
        C.is("14: to those behind it", h.ofEntry(1, 8), 0);
        h.setBudget(0, 0, false);
        h.bill(0, 364);
        h.setBudget(0, 5000, true);
        h.entry(0, 0, 0, 0, 0, 10);
        C.is("14: what is billed has used it, though it is later", h.ofEntry(4, 8), 0);
        h.aim(0, 5, -1, -1);
        C.is("14: no amount", h.ofEntry(4, 7), 0);
        C.is("14: used is more than the budget, also without an amount", h.ofEntry(4, 9), 1);
    }

    private static void rate() {
        Real h = plain();
        h.entry(0, 0, 0, 0, 100, 200);
        C.index("15: entry 1, and a wrong minute", () -> h.rate(1, -1));
        C.index("15: entry -1", () -> h.rate(-1, 100));
        C.argument("15: minute 99", () -> h.rate(0, 99));
        C.argument("15: minute 200", () -> h.rate(0, 200));
        C.argument("15: minute MIN", () -> h.rate(0, MIN));
        C.argument("15: minute MAX", () -> h.rate(0, MAX));
        C.is("15: the first minute", h.rate(0, 100), 6000);
        C.is("15: the last minute", h.rate(0, 199), 6000);
        h.rule(true, 9000);
        C.is("15: the first fix", h.rate(0, 100), 6000);
        h.time(0, 0, 364, 0, 0, 150);
        C.is("15: the first fix that meets it, ahead of its end", h.rate(0, 149), 6000);
        C.is("15: the first fix that meets it, behind its end", h.rate(0, 150), 9000);
        h.dropRule(0);
        h.dropRule(0);
        C.is("15: 0 without one", h.rate(0, 100), 0);
        h.rule(false, 200);
        C.is("15: percents of nothing", h.rate(0, 100), 0);
        h.rule(true, 999);
        C.is("15: a plus ahead of the fix", h.rate(0, 100), 2997);
        h.rule(false, -50);
        C.is("15: cut towards 0", h.rate(0, 100), 1499);
        h.rule(false, 1);
        C.is("15: cut again", h.rate(0, 100), 1513);
        h.take(0);
        C.index("15: it is gone", () -> h.rate(0, 100));
        Real most = new Real();
        most.project(0, false);
        most.rule(true, 50000);
        most.rule(false, 200);
        most.rule(false, 200);
        most.rule(false, 200);
        most.rule(false, -90);
        most.entry(0, 0, 0, 0, 0, 1);
        C.is("15: at most 500000 behind each", most.rate(0, 0), 50000);
    }

    private static void why() {
        Real h = plain();
        h.entry(0, 0, 0, 0, 100, 200);
        C.index("16: entry 1, and a wrong minute", () -> h.why(1, -1));
        C.argument("16: minute 99", () -> h.why(0, 99));
        C.argument("16: minute 200", () -> h.why(0, 200));
        C.is("16: the only one", h.why(0, 100), 1);
        h.rule(true, 9000);
        C.is("16: not a second fix", h.why(0, 100), 1);
        h.rule(false, 0);
        C.is("16: a plus that changes nothing", h.why(0, 100), 5);
        h.time(0, 0, 364, 0, 0, 150);
        C.is("16: the other fix behind it", h.why(0, 150), 6);
        h.time(2, 0, 364, 0, 0, 199);
        C.is("16: the plus ends too", h.why(0, 199), 2);
        h.aim(1, 1, -1, -1);
        C.is("16: none", h.why(0, 199), 0);
        for (int k = 3; k < 10; k++) {
            h.rule(false, k);
        }
        C.is("16: up to rule 9", h.why(0, 199), 1023 - 7);
        h.take(0);
        C.index("16: it is gone", () -> h.why(0, 100));
    }

    private static void ofProject() {
        Real h = new Real();
        h.project(10000, false);
        h.project(0, true);
        h.rule(true, 6000);
        C.index("17: project 2, and a wrong what", () -> h.ofProject(2, 6));
        C.index("17: project -1", () -> h.ofProject(-1, 0));
        C.argument("17: what -1", () -> h.ofProject(0, -1));
        C.argument("17: what 6", () -> h.ofProject(0, 6));
        project(h, "without entries", 0, new int[] {0, 0, 0, 10000, 0, 0});
        h.setStep(0, 30, 1);
        h.entry(0, 0, 0, 0, 0, 59);
        h.entry(0, 0, 0, 1, 0, 61);
        h.entry(0, 1, 0, 2, 0, 33);
        project(h, "with two", 0, new int[] {120, 15000, 15000, -5000, 1, 0});
        project(h, "without a budget", 1, new int[] {33, 3300, 3300, 0, 0, 0});
        h.bill(0, 0);
        project(h, "with a billed one", 0, new int[] {120, 15000, 9000, -5000, 1, 0});
        h.change(0, 0, 30);
        project(h, "with a corrected one", 0, new int[] {91, 12000, 9000, -2000, 1, -3000});
        project(h, "of another project", 1, new int[] {33, 3300, 3300, 0, 0, 0});
        h.bill(0, 0);
        project(h, "with a correction that is billed", 0, new int[] {91, 12000, 9000, -2000, 1, 0});
        h.bill(0, 364);
        project(h, "with all billed", 0, new int[] {91, 12000, 0, -2000, 0, 0});
    }

    private static void project(Real h, String title, int project, int[] due) {
        for (int what = 0; what < due.length; what++) {
            C.is("17: ofProject(" + project + ", " + what + ") " + title, h.ofProject(project, what), due[what]);
        }
    }

    private static void worked() {
        Real h = plain();
        h.setStep(0, 30, 1);
        h.project(0, false);
        h.entry(0, 0, 0, 0, 0, 1);
        h.entry(0, 1, 0, 5, 0, 10);
        h.entry(0, 0, 0, 364, 0, 100);
        h.entry(5, 0, 0, 5, 0, 1000);
        C.argument("18: person -1", () -> h.worked(-1, 0, 0));
        C.argument("18: person 6", () -> h.worked(6, 0, 0));
        C.argument("18: first day -1", () -> h.worked(0, -1, 0));
        C.argument("18: first day 365", () -> h.worked(0, 365, 0));
        C.argument("18: last day -1", () -> h.worked(0, 0, -1));
        C.argument("18: last day 365", () -> h.worked(0, 0, 365));
        C.is("18: all", h.worked(0, 0, 364), 111);
        C.is("18: up to day 5", h.worked(0, 0, 5), 11);
        C.is("18: from day 5 on", h.worked(0, 5, 364), 110);
        C.is("18: between", h.worked(0, 1, 4), 0);
        C.is("18: a day", h.worked(0, 5, 5), 10);
        C.is("18: the last day ahead of the first", h.worked(0, 5, 4), 0);
        C.is("18: another person", h.worked(5, 0, 364), 1000);
        C.is("18: one without entries", h.worked(1, 0, 364), 0);
        h.bill(0, 364);
        C.is("18: billed ones too", h.worked(0, 0, 364), 111);
        h.take(1);
        C.is("18: not one that is gone", h.worked(0, 0, 364), 101);
    }

    private static void bill() {
        Real h = plain();
        h.project(0, false);
        C.index("19: project 2, and a wrong day", () -> h.bill(2, -1));
        C.index("19: project -1", () -> h.bill(-1, 0));
        C.argument("19: day -1", () -> h.bill(0, -1));
        C.argument("19: day 365", () -> h.bill(0, 365));
        C.state("19: nothing to bill", () -> h.bill(0, 364));
        h.entry(0, 0, 0, 10, 0, 60);
        h.entry(0, 1, 0, 5, 0, 60);
        h.entry(0, 0, 0, 20, 0, 60);
        C.state("19: nothing up to that day", () -> h.bill(0, 9));
        C.argument("19: nothing, and a wrong day", () -> h.bill(0, 365));
        C.is("19: none was made", h.many(3), 0);
        C.is("19: up to that day", h.bill(0, 10), 0);
        C.is("19: the first one is billed", h.ofEntry(0, 10), 0);
        C.is("19: another project is not", h.ofEntry(1, 10), -1);
        C.is("19: a later day is not", h.ofEntry(2, 10), -1);
        C.state("19: nothing more up to that day", () -> h.bill(0, 19));
        C.is("19: of the other project", h.bill(1, 364), 1);
        h.change(0, 0, 60);
        C.is("19: a correction of 0 is enough", h.bill(0, 0), 2);
        C.state("19: but once", () -> h.bill(0, 0));
        C.is("19: both", h.bill(0, 364), 3);
        C.is("19: the charge is kept", h.ofEntry(2, 8), 6000);
    }

    private static void billLimit() {
        Real h = plain();
        for (int k = 0; k < 20; k++) {
            h.entry(0, 0, 0, k, 0, 60);
            C.is("19: bill " + k, h.bill(0, k), k);
        }
        h.takeBack(19);
        C.state("19: there were 20, one of them taken back", () -> h.bill(0, 364));
        C.argument("19: there were 20, and a wrong day", () -> h.bill(0, 365));
        C.is("19: nothing was billed", h.ofEntry(19, 10), -1);
        C.is("23: would bill also if there were 20", h.wouldBill(0, 364), 6000);
        C.is("13: 20 ever", h.many(3), 20);
    }

    private static void takeBack() {
        Real h = plain();
        h.project(0, false);
        for (int day = 0; day < 4; day++) {
            h.entry(0, day % 2, 0, day, 0, 60);
        }
        h.entry(1, 0, 0, 0, 0, 60);
        h.bill(0, 0);
        h.bill(1, 364);
        h.bill(0, 364);
        C.index("20: bill 3", () -> h.takeBack(3));
        C.index("20: bill -1", () -> h.takeBack(-1));
        C.index("20: bill 20", () -> h.takeBack(20));
        C.state("20: not the last one", () -> h.takeBack(0));
        C.is("20: nothing was changed", h.ofEntry(0, 10), 0);
        C.is("20: the last one of another project", h.takeBack(1), 2);
        C.is("20: the last one", h.takeBack(2), 1);
        C.state("20: taken back already", () -> h.takeBack(2));
        C.is("20: now the last one", h.takeBack(0), 2);
        C.is("20: not billed any more", h.ofEntry(0, 10), -1);
        C.is("20: billed again", h.bill(0, 364), 3);
        C.state("20: an old one stays taken back", () -> h.takeBack(2));
        C.is("20: its number is new", h.ofEntry(0, 10), 3);
        C.is("20: and back again", h.takeBack(3), 3);
    }

    private static void takeBackOfCorrections() {
        Real h = plain();
        h.entry(0, 0, 0, 0, 0, 60);
        h.entry(1, 0, 0, 5, 0, 60);
        h.bill(0, 0);
        h.change(0, 0, 50);
        h.bill(0, 5);
        h.change(0, 0, 45);
        h.change(1, 0, 10);
        C.is("20: two wait", h.ofProject(0, 5), -500 - 5000);
        C.is("20: one entry is free", h.takeBack(1), 1);
        C.is("20: its correction waits again, one of its entries is dropped", h.ofProject(0, 5), -1500);
        C.is("20: the minutes stay", h.ofEntry(1, 5), 10);
        C.is("20: the charge is what it is now", h.ofEntry(1, 8), 1000);
        C.is("20: the charge of the other one stays", h.ofEntry(0, 8), 4500);
        C.is("20: all in the next", h.wouldBill(0, 5), 1000 - 1500);
        h.bill(0, 5);
        C.is("20: the corrections of the next", h.ofBill(2, 6), -1500);
        h.takeBack(2);
        C.is("20: they wait again", h.ofProject(0, 5), -1500);
        C.is("20: the first one", h.takeBack(0), 1);
        C.is("20: all are dropped", h.ofProject(0, 5), 0);
        C.is("20: with the minutes that it has", h.ofEntry(0, 5), 45);
        C.is("20: nothing waits", h.wouldBill(0, 5), 4500 + 1000);
        Real zero = plain();
        zero.entry(0, 0, 0, 0, 0, 60);
        zero.bill(0, 0);
        zero.change(0, 0, 60);
        zero.bill(0, 0);
        zero.takeBack(1);
        C.is("20: a correction of 0 waits again", zero.bill(0, 0), 2);
        zero.takeBack(2);
        zero.takeBack(0);
        zero.take(0);
        C.state("20: and is dropped", () -> zero.bill(0, 0));
    }

    private static void ofBill() {
        Real h = new Real();
        h.project(0, false);
        h.project(0, false);
        h.rule(true, 6000);
        h.setTerms(1, 15, 7);
        h.entry(0, 1, 0, 0, 0, 30);
        C.index("21: bill 0, and a wrong what", () -> h.ofBill(0, 8));
        h.bill(1, 0);
        C.index("21: bill 1", () -> h.ofBill(1, 0));
        C.index("21: bill -1", () -> h.ofBill(-1, 0));
        C.argument("21: what -1", () -> h.ofBill(0, -1));
        C.argument("21: what 8", () -> h.ofBill(0, 8));
        bill(h, "first", 0, new int[] {1, 1, 3000, 450, 179, 2729, 0, 0});
        h.setTerms(1, 0, 0);
        h.rule(false, 100);
        h.setStep(1, 10, 1);
        h.change(0, 0, 1);
        bill(h, "with other terms since", 0, new int[] {1, 1, 3000, 450, 179, 2729, 0, 0});
        h.setTerms(1, 10, 100);
        h.entry(0, 1, 0, 1, 0, 10);
        h.bill(1, 364);
        bill(h, "with a correction", 1, new int[] {1, 1, 1000, 100, 900, 1800, -1000, 0});
        h.takeBack(1);
        bill(h, "taken back", 1, new int[] {1, 0, 0, 0, 0, 0, 0, 1});
    }

    private static void ofBillBelowNothing() {
        Real h = plain();
        h.entry(0, 0, 0, 0, 0, 60);
        h.bill(0, 0);
        h.change(0, 0, 45);
        h.dropRule(0);
        h.rule(true, 5);
        h.change(0, 0, 60);
        h.setTerms(0, 10, 10);
        h.bill(0, 0);
        C.is("21: net below nothing", h.ofBill(1, 2), -5995);
        C.is("21: a half goes up, -599.5 to -599", h.ofBill(1, 3), -599);
        C.is("21: -539.6 to -540", h.ofBill(1, 4), -540);
        C.is("21: the total", h.ofBill(1, 5), -5995 + 599 - 540);
        C.is("21: a bill of corrections alone has no lines", h.ofBill(1, 1), 0);
        C.index("22: nor a line 0", () -> h.line(1, 0, 0));
    }

    private static void bill(Real h, String title, int bill, int[] due) {
        for (int what = 0; what < due.length; what++) {
            C.is("21: ofBill(" + bill + ", " + what + ") " + title, h.ofBill(bill, what), due[what]);
        }
    }

    private static void line() {
        Real h = new Real();
        h.project(9000, true);
        h.rule(true, 6000);
        h.setStep(0, 10, 0);
        h.entry(5, 0, 0, 0, 0, 34);
        h.entry(0, 0, 3, 1, 0, 4);
        h.entry(0, 0, 1, 2, 0, 21);
        h.entry(5, 0, 0, 3, 0, 36);
        h.entry(1, 0, 2, 4, 0, 60);
        h.entry(2, 0, 2, 9, 0, 60);
        h.entry(0, 0, 0, 4, 100, 120);
        C.index("22: bill 0, and a wrong what", () -> h.line(0, 0, 4));
        h.bill(0, 4);
        C.index("22: line -1", () -> h.line(0, -1, 0));
        C.index("22: line 5, and a wrong what", () -> h.line(0, 5, 4));
        C.index("22: bill 1", () -> h.line(1, 0, 0));
        C.argument("22: what -1", () -> h.line(0, 0, -1));
        C.argument("22: what 4", () -> h.line(0, 4, 4));
        int[][] due = {{0, 0, 20, 0}, {0, 1, 20, 2000}, {0, 3, 0, 0}, {1, 2, 60, 0}, {5, 0, 70, 7000}};
        lines(h, "then", due);
        h.setStep(0, 1, 0);
        h.change(0, 0, 1);
        h.dropRule(0);
        lines(h, "as they were then", due);
        h.takeBack(0);
        C.index("22: a bill that is taken back has none", () -> h.line(0, 0, 0));
    }

    private static void lines(Real h, String title, int[][] due) {
        C.is("22: how many lines, " + title, h.ofBill(0, 1), due.length);
        for (int line = 0; line < due.length; line++) {
            for (int what = 0; what <= 3; what++) {
                C.is("22: line(0, " + line + ", " + what + ") " + title, h.line(0, line, what), due[line][what]);
            }
        }
    }

    private static void wouldBill() {
        Real h = new Real();
        h.project(7000, true);
        h.rule(true, 6000);
        C.index("23: project 1, and a wrong day", () -> h.wouldBill(1, -1));
        C.argument("23: day -1", () -> h.wouldBill(0, -1));
        C.argument("23: day 365", () -> h.wouldBill(0, 365));
        C.is("23: it would be refused", h.wouldBill(0, 364), 0);
        h.entry(0, 0, 0, 4, 0, 60);
        h.entry(0, 0, 0, 8, 0, 60);
        C.is("23: nothing up to that day", h.wouldBill(0, 3), 0);
        C.is("23: one", h.wouldBill(0, 4), 6000);
        C.is("23: two, cut", h.wouldBill(0, 8), 7000);
        h.setTerms(0, 10, 20);
        C.is("23: with terms", h.wouldBill(0, 8), 7560);
        C.is("23: no bill is made", h.many(3), 0);
        C.is("23: nothing is billed", h.ofEntry(0, 10), -1);
        h.bill(0, 4);
        h.change(0, 0, 30);
        C.is("23: a correction alone", h.wouldBill(0, 0), -3240);
        C.is("23: a correction and an entry", h.wouldBill(0, 8), (-3000 + 4000) * 108 / 100);
        C.is("23: as the bill has it then", h.ofBill(h.bill(0, 8), 5), 1080);
    }

    private static void without() {
        Real h = plain();
        h.project(0, false);
        h.rule(true, 9000);
        h.rule(false, 50);
        h.rule(false, -50);
        h.aim(2, 1, -1, -1);
        h.entry(0, 0, 0, 0, 0, 60);
        h.entry(1, 1, 0, 0, 0, 60);
        h.entry(2, 1, 0, 0, 0, 60);
        h.take(2);
        h.bill(1, 364);
        C.index("24: rule 4", () -> h.without(4));
        C.index("24: rule -1", () -> h.without(-1));
        C.is("24: without the first fix, the second", h.without(0), 1500 + 2250);
        C.is("24: without the second fix", h.without(1), 0);
        C.is("24: without a plus", h.without(2), -1500);
        C.is("24: without a minus", h.without(3), 3000 + 4500);
        C.is("24: no rule is dropped", h.many(1), 4);
        C.is("24: the amounts are as they were", h.ofEntry(1, 7), 4500);
        h.dropRule(3);
        C.index("24: rule 3 is no more", () -> h.without(3));
    }

    private static void amountsWith() {
        Real h = plain();
        h.rule(false, 50);
        h.project(100, true);
        h.entry(0, 0, 0, 0, 0, 60);
        h.entry(0, 1, 0, 1, 0, 60);
        h.entry(0, 1, 0, 2, 0, 60);
        h.take(2);
        h.bill(0, 364);
        C.index("25: rule 2, and a wrong rate", () -> h.amountsWith(2, -100));
        C.index("25: rule -1", () -> h.amountsWith(-1, 0));
        C.argument("25: a rate of -1", () -> h.amountsWith(0, -1));
        C.argument("25: a rate of 50001", () -> h.amountsWith(0, 50001));
        C.argument("25: percents of -91", () -> h.amountsWith(1, -91));
        C.argument("25: percents of 201", () -> h.amountsWith(1, 201));
        C.is("25: another rate", h.amountsWith(0, 1000), 3000);
        C.is("25: the greatest rate", h.amountsWith(0, 50000), 150000);
        C.is("25: a rate of 0", h.amountsWith(0, 0), 0);
        C.is("25: the most percents", h.amountsWith(1, 200), 36000);
        C.is("25: the fewest percents", h.amountsWith(1, -90), 1200);
        C.is("25: as it is", h.amountsWith(1, 50), 18000);
        C.is("25: nothing is changed", h.rate(0, 0), 9000);
    }

    private static void overOn() {
        Real h = new Real();
        h.project(6000, false);
        h.project(1, false);
        h.rule(true, 6000);
        C.index("26: project 2", () -> h.overOn(2));
        C.index("26: project -1", () -> h.overOn(-1));
        C.is("26: without entries", h.overOn(0), -1);
        h.entry(0, 0, 0, 300, 0, 60);
        C.is("26: none", h.overOn(0), -1);
        h.entry(0, 0, 0, 100, 0, 1);
        C.is("26: one", h.overOn(0), 300);
        h.entry(0, 0, 0, 200, 0, 60);
        C.is("26: the first one", h.overOn(0), 200);
        h.entry(0, 1, 0, 0, 0, 1);
        C.is("26: of this project", h.overOn(0), 200);
        h.entry(0, 1, 0, 1, 0, 1);
        C.is("26: of the other one, on day 0", h.overOn(1), 0);
        h.bill(0, 200);
        C.is("26: not one that is billed", h.overOn(0), 300);
        h.setBudget(0, 0, true);
        C.is("26: without a budget", h.overOn(0), -1);
    }

    private static void meanRate() {
        Real h = plain();
        C.is("27: without any", h.meanRate(), 0.0);
        h.entry(0, 0, 0, 0, 0, 60);
        C.is("27: one", h.meanRate(), 6000.0);
        h.entry(0, 0, 0, 1, 0, 7);
        h.setStep(0, 15, 0);
        C.is("27: not cut, and by the lengths as they are", h.meanRate(), 60.0 * 6000 / 67);
        h.bill(0, 0);
        C.is("27: billed ones too", h.meanRate(), 60.0 * 6000 / 67);
        h.take(1);
        C.is("27: not one that is gone", h.meanRate(), 6000.0);
        h.aim(0, 5, -1, -1);
        C.is("27: by the amounts, not the charges", h.meanRate(), 0.0);
    }

    private static void digest() {
        Real h = new Real();
        h.project(0, false);
        C.is("28: a project", h.digest(), mixed(1, 0, 0, 0, 0, 0, 0, 0, 0, 0, -1));
        h.rule(true, 6000);
        h.rule(false, 50);
        C.is("28: and two rules", h.digest(), mixed(1, 2, 0, 0, 0, 0, 0, 0, 0, 0, -1, 0, 0));
        h.entry(3, 0, 2, 7, 60, 90);
        h.take(h.entry(1, 0, 2, 7, 60, 90));
        C.is("28: and an entry", h.digest(), mixed(1, 2, 1, 0, 30, 4500, 4500, 0, 0, 0, -1, -4500, -1500,
                3, 0, 2, 7, 60, 90, 30, 4500, 4500, 0, -1, 9000, 3));
        h.bill(0, 7);
        C.is("28: and a bill", h.digest(), mixed(1, 2, 1, 1, 30, 4500, 0, 0, 0, 0, -1, -4500, -1500,
                3, 0, 2, 7, 60, 90, 30, 4500, 4500, 0, 0, 9000, 3,
                0, 1, 4500, 0, 0, 4500, 0, 0, 3, 2, 30, 4500));
        h.takeBack(0);
        C.is("28: and one that is taken back", h.digest(), mixed(1, 2, 1, 1, 30, 4500, 4500, 0, 0, 0, -1,
                -4500, -1500, 3, 0, 2, 7, 60, 90, 30, 4500, 4500, 0, -1, 9000, 3, 0, 0, 0, 0, 0, 0, 0, 1));
    }

    private static long mixed(int... xs) {
        long d = 58079;
        for (int x : xs) {
            d = d * 31 + x;
        }
        return d;
    }

    /** What has the greatest number that there can be, and what has one more. */
    private static void lastOfAll() {
        Real h = new Real();
        for (int k = 0; k < 6; k++) {
            h.project(0, false);
        }
        h.rule(true, 6000);
        for (int k = 0; k < 60; k++) {
            h.entry(5, 5, 3, k, 0, 60);
        }
        Check.Call[] ofProject6 = {() -> h.setBudget(6, 0, true), () -> h.setStep(6, 1, 0), () -> h.setTerms(6, 0, 0),
            () -> h.entry(0, 6, 0, 0, 0, 1), () -> h.ofProject(6, 0), () -> h.bill(6, 0), () -> h.wouldBill(6, 0),
            () -> h.overOn(6)};
        for (int k = 0; k < ofProject6.length; k++) {
            C.index("there is no project 6, " + k, ofProject6[k]);
        }
        Check.Call[] ofEntry60 = {() -> h.change(60, 0, 1), () -> h.take(60), () -> h.ofEntry(60, 0),
            () -> h.rate(60, 0), () -> h.why(60, 0)};
        for (int k = 0; k < ofEntry60.length; k++) {
            C.index("there is no entry 60, " + k, ofEntry60[k]);
        }
        C.is("17: project 5", h.ofProject(5, 1), 360000);
        C.is("14: entry 59", h.ofEntry(59, 3), 59);
        for (int k = 0; k < 20; k++) {
            h.bill(5, k == 19 ? 364 : k);
        }
        Check.Call[] ofBill20 = {() -> h.takeBack(20), () -> h.ofBill(20, 0), () -> h.line(20, 0, 0)};
        for (int k = 0; k < ofBill20.length; k++) {
            C.index("there is no bill 20, " + k, ofBill20[k]);
        }
        C.is("22: the last of the people and kinds", h.line(19, 0, 3), 41 * 6000);
        C.is("22: who", h.line(19, 0, 0), 5);
        C.is("22: what kind", h.line(19, 0, 1), 3);
        C.is("11: entry 59", h.change(59, 0, 50), -1000);
        C.is("20: the last one", h.takeBack(19), 41);
        C.is("20: entry 59 has no correction any more", h.ofProject(5, 5), 0);
    }

    private static void manyCorrections() {
        Real h = plain();
        for (int k = 0; k < 60; k++) {
            h.entry(0, 0, 0, k, 0, 60);
        }
        h.bill(0, 59);
        h.change(5, 0, 50);
        h.change(58, 0, 40);
        h.change(59, 0, 90);
        C.is("23: the sum of them", h.wouldBill(0, 0), 0);
        h.change(59, 0, 100);
        C.is("23: the sum of them and one more", h.wouldBill(0, 0), 1000);
        h.bill(0, 0);
        C.is("21: the sum of them", h.ofBill(1, 6), 1000);
        C.is("21: net has them all", h.ofBill(1, 2), 1000);
        C.is("20: no entries are its own", h.takeBack(1), 0);
        C.is("20: all wait again", h.ofProject(0, 5), 1000);
        h.bill(0, 0);
        C.is("21: the sum of them again", h.ofBill(2, 6), 1000);
        Real none = plain();
        none.entry(0, 0, 0, 0, 0, 60);
        none.entry(0, 0, 1, 1, 0, 60);
        none.bill(0, 0);
        C.is("22: the first of the people and kinds", none.line(0, 0, 3), 6000);
        none.bill(0, 1);
        none.takeBack(1);
        none.take(1);
        C.state("20: a bill without corrections gives none back", () -> none.bill(0, 364));
        C.is("22: the other lines stay", none.ofBill(0, 1), 1);
    }

    private static void throwingChangesNothing() {
        Real h = plain();
        h.entry(0, 0, 0, 0, 0, 60);
        h.entry(0, 0, 0, 1, 0, 60);
        h.entry(0, 0, 0, 1, 60, 120);
        h.bill(0, 0);
        h.change(0, 0, 30);
        long before = h.digest();
        Check.Call[] calls = {() -> h.project(-1, true), () -> h.setBudget(0, -1, true), () -> h.setStep(0, 5, 3),
            () -> h.setStep(0, 7, 1), () -> h.setTerms(0, 5, 101), () -> h.rule(true, -1), () -> h.aim(0, 1, 1, 4),
            () -> h.time(0, 1, 2, 1, 9, 9), () -> h.dropRule(1), () -> h.entry(0, 0, 0, 0, 29, 60),
            () -> h.change(1, 0, 61), () -> h.change(0, 5, 5), () -> h.take(0), () -> h.bill(0, 365),
            () -> h.takeBack(1), () -> h.amountsWith(0, -1), () -> h.wouldBill(0, 365)};
        for (int k = 0; k < calls.length; k++) {
            C.is("a call throws, " + k, Check.outcome(calls[k]).startsWith("throws."), true);
            C.is("a method that throws changes nothing, " + k, h.digest(), before);
        }
    }
}
