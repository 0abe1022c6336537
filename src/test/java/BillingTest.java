/** The sentences of 'Terms' about CHARGES and BILLS: order, what is left of a budget, lines, corrections, taking back. */
public final class BillingTest {
    private static final Check C = new Check("BillingTest");

    public static void main(String[] args) {
        order();
        usedByBilledOnes();
        hardBudget();
        softBudget();
        over();
        overWithoutAnAmount();
        billedStays();
        upToTheDay();
        refused();
        lines();
        linesAsTheyWere();
        termsAsTheyWere();
        corrections();
        correctionsWhateverTheBudget();
        correctionsOfOneProject();
        takeBackInTurn();
        takeBackOfEntries();
        takeBackOfCorrections();
        takeBackDropsItsOwn();
        takeBackOfNothingButCorrections();
        wouldBill();
        C.end();
    }

    private static Real book(int budget, boolean isHard, int rate) {
        Real h = new Real();
        h.project(budget, isHard);
        h.rule(true, rate);
        return h;
    }

    private static void state(String what, Check.Call call) {
        C.state(what, call);
    }

    // ---- charges

    /** Each has 60; the hard budget is enough for one of them. */
    private static void order() {
        charged("the earlier day, not the earlier minute", new int[] {0, 5, 0, 60}, new int[] {0, 4, 600, 660});
        charged("the earlier day, not the first of the people", new int[] {0, 5, 0, 60}, new int[] {5, 4, 0, 60});
        charged("the earlier minute", new int[] {0, 5, 1, 61}, new int[] {5, 5, 0, 60});
        charged("the first minute, not the end", new int[] {0, 5, 1, 61}, new int[] {1, 5, 0, 60});
        charged("the first of the people", new int[] {1, 5, 0, 60}, new int[] {0, 5, 0, 60});
        charged("the last of the people", new int[] {5, 364, 1380, 1440}, new int[] {4, 364, 1380, 1440});
        charged("the last day", new int[] {0, 364, 0, 60}, new int[] {5, 363, 1380, 1440});
        Real h = book(60, true, 60);
        h.entry(0, 0, 3, 1, 0, 60);
        h.entry(1, 0, 0, 1, 0, 60);
        C.is("not by the kind", h.ofEntry(0, 8), 60);
        h.change(0, 2, 62);
        C.is("by the minutes as they are now", h.ofEntry(1, 8), 60);
        h.take(1);
        C.is("one that is gone takes nothing", h.ofEntry(0, 8), 60);
        Real three = book(100, true, 60);
        three.entry(0, 0, 0, 3, 0, 60);
        three.entry(0, 0, 0, 1, 0, 60);
        three.entry(0, 0, 0, 2, 0, 60);
        C.is("the last of three", three.ofEntry(0, 8), 0);
        C.is("the first of three", three.ofEntry(1, 8), 60);
        C.is("the second of three", three.ofEntry(2, 8), 40);
    }

    /** Of the two the second one comes first, though its number is the greater one. */
    private static void charged(String told, int[] second, int[] first) {
        Real h = book(60, true, 60);
        h.entry(second[0], 0, 0, second[1], second[2], second[3]);
        h.entry(first[0], 0, 0, first[1], first[2], first[3]);
        C.is(told + ", the first one", h.ofEntry(1, 8), 60);
        C.is(told + ", the second one", h.ofEntry(0, 8), 0);
        C.is(told + ", over", h.overOn(0), second[1]);
    }

    private static void usedByBilledOnes() {
        Real h = book(0, true, 60);
        h.entry(0, 0, 0, 300, 0, 60);
        h.entry(0, 0, 0, 1, 0, 60);
        h.project(0, true);
        h.entry(0, 1, 0, 2, 0, 60);
        h.bill(0, 364);
        h.bill(1, 364);
        h.entry(0, 0, 0, 0, 0, 60);
        h.setBudget(0, 150, true);
        C.is("all billed ones come first, whatever their days", h.ofEntry(3, 8), 30);
        h.change(0, 0, 90);
        C.is("with what they are corrected to", h.ofEntry(3, 8), 0);
        h.change(0, 0, 30);
        C.is("and back, those of another project not", h.ofEntry(3, 8), 60);
        C.is("no more than that is left", h.ofProject(0, 3), 0);
        h.setBudget(0, 89, true);
        C.is("not below 0", h.ofEntry(3, 8), 0);
        C.is("what is left can be below 0", h.ofProject(0, 3), -1);
    }

    private static void hardBudget() {
        int[][] due = {{59, 59, 1}, {60, 60, 0}, {61, 60, 0}, {1, 1, 1}, {0, 60, 0}, {10000000, 60, 0}};
        for (int[] d : due) {
            Real h = book(d[0], true, 60);
            h.entry(0, 0, 0, 0, 0, 60);
            C.is("60 with a hard budget of " + d[0], h.ofEntry(0, 8), d[1]);
            C.is("over a hard budget of " + d[0], h.ofEntry(0, 9), d[2]);
            C.is("its amount with a hard budget of " + d[0], h.ofEntry(0, 7), 60);
        }
        Real h = book(100, true, 60);
        for (int k = 0; k < 4; k++) {
            h.entry(0, 0, 0, k, 0, 60);
        }
        int[] charges = {60, 40, 0, 0};
        int[] over = {0, 1, 1, 1};
        for (int k = 0; k < 4; k++) {
            C.is("one behind the other, charge " + k, h.ofEntry(k, 8), charges[k]);
            C.is("one behind the other, over " + k, h.ofEntry(k, 9), over[k]);
        }
        C.is("no more than the budget", h.ofProject(0, 1), 100);
        C.is("how many are over", h.ofProject(0, 4), 3);
    }

    private static void softBudget() {
        Real h = book(120, false, 60);
        for (int k = 0; k < 4; k++) {
            h.entry(0, 0, 0, k, 0, 60);
            C.is("the whole amount, " + k, h.ofEntry(k, 8), 60);
        }
        C.is("the sum", h.ofProject(0, 1), 240);
        C.is("just the budget is not over", h.ofEntry(1, 9), 0);
        C.is("those behind it are", h.ofProject(0, 4), 2);
        C.is("the first one", h.overOn(0), 2);
        C.is("less than nothing is left", h.ofProject(0, 3), -120);
        h.setBudget(0, 0, false);
        C.is("without a budget none is over", h.ofProject(0, 4), 0);
        C.is("without a budget nothing is left, nor is it missing", h.ofProject(0, 3), 0);
    }

    private static void over() {
        Real h = book(59, false, 60);
        h.entry(0, 0, 0, 9, 0, 60);
        C.is("a cent more than the budget", h.ofEntry(0, 9), 1);
        h.setBudget(0, 60, false);
        C.is("just the budget", h.ofEntry(0, 9), 0);
        h.setBudget(0, 59, false);
        h.bill(0, 9);
        C.is("a billed one never", h.ofEntry(0, 9) + h.ofProject(0, 4), 0);
        C.is("none", h.overOn(0), -1);
        h.change(0, 0, 600);
        C.is("nor a corrected one", h.ofEntry(0, 9) + h.ofProject(0, 4), 0);
        h.takeBack(0);
        C.is("once more when the bill is taken back", h.ofEntry(0, 9) + h.ofProject(0, 4), 2);
        C.is("its day", h.overOn(0), 9);
        h.take(0);
        C.is("not one that is gone", h.overOn(0), -1);
    }

    private static void overWithoutAnAmount() {
        Real h = book(60, true, 60);
        h.entry(0, 0, 0, 0, 0, 60);
        h.entry(1, 0, 0, 1, 0, 60);
        h.aim(0, 0, -1, -1);
        C.is("no amount, and just the budget used", h.ofEntry(1, 9), 0);
        h.setBudget(0, 59, true);
        C.is("cut to the budget, which is used then", h.ofEntry(1, 9), 0);
        h.setBudget(0, 59, false);
        C.is("more than the budget is used, ahead of it", h.ofEntry(1, 9), 1);
    }

    // ---- bills

    private static void billedStays() {
        Real h = book(50, true, 60);
        h.setStep(0, 30, 1);
        h.entry(0, 0, 0, 0, 0, 31);
        h.bill(0, 0);
        C.is("the charge that it had", h.ofEntry(0, 8), 50);
        h.setBudget(0, 10, true);
        C.is("with less of a budget", h.ofEntry(0, 8), 50);
        h.setBudget(0, 0, false);
        C.is("without a budget", h.ofEntry(0, 8), 50);
        h.setStep(0, 1, 0);
        C.is("with another step", h.ofEntry(0, 8), 50);
        C.is("ROUNDED is as it would be now", h.ofEntry(0, 6), 31);
        h.rule(false, 100);
        C.is("with other rules", h.ofEntry(0, 8), 50);
        C.is("AMOUNT is as it would be now", h.ofEntry(0, 7), 62);
        C.is("so are what is without a rule", h.without(1), -31);
        C.is("and with other percents", h.amountsWith(1, 0), 31);
        C.is("and the mean", h.meanRate(), 60.0 * 62 / 31);
        C.is("and its rate", h.rate(0, 30), 120);
        C.is("the project has what is charged", h.ofProject(0, 1), 50);
        C.is("nothing of it is open", h.ofProject(0, 2), 0);
    }

    private static void upToTheDay() {
        int[][] due = {{0, 0, 1}, {10, 9, 0}, {10, 10, 1}, {10, 11, 1}, {364, 363, 0}, {364, 364, 1}, {0, 364, 1}};
        for (int[] d : due) {
            Real h = book(0, false, 60);
            h.entry(0, 0, 0, d[0], 0, 60);
            String told = "day " + d[0] + " in a bill up to day " + d[1];
            C.is(told + ", would be", h.wouldBill(0, d[1]), 60 * d[2]);
            C.is(told, Check.outcome(() -> h.bill(0, d[1])), d[2] == 1 ? "0" : "throws.java.lang.IllegalStateException");
            C.is(told + ", billed", h.ofEntry(0, 10), d[2] - 1);
        }
    }

    private static void refused() {
        Real h = book(0, false, 60);
        h.project(0, false);
        state("no entry, no correction", () -> h.bill(0, 364));
        h.entry(0, 0, 0, 5, 0, 60);
        state("an entry of another project", () -> h.bill(1, 364));
        C.is("an entry alone", h.bill(0, 5), 0);
        state("it is billed", () -> h.bill(0, 364));
        h.change(0, 0, 60);
        state("a correction of another project", () -> h.bill(1, 364));
        C.is("a correction of 0 alone, whatever the day", h.bill(0, 0), 1);
        state("it is billed too", () -> h.bill(0, 364));
        h.change(0, 0, 70);
        h.change(0, 0, 60);
        C.is("two that are 0 together", h.bill(0, 0), 2);
        C.is("their sum", h.ofBill(2, 6), 0);
        h.entry(0, 0, 0, 6, 0, 60);
        h.aim(0, 5, 5, 3);
        C.is("an entry without an amount", h.bill(0, 6), 3);
        C.is("which has a line", h.ofBill(3, 1), 1);
        C.is("of nothing", h.line(3, 0, 3), 0);
    }

    /** One for each of the people and kinds, written from the last one on, the last two of them of one line. */
    private static void lines() {
        Real h = book(0, false, 60);
        h.project(0, false);
        h.setStep(0, 10, 0);
        h.entry(0, 1, 0, 6, 0, 60);
        for (int k = 23; k >= 0; k--) {
            h.entry(k / 4, 0, k % 4, k % 4, 0, 21 + k);
        }
        h.entry(5, 0, 3, 5, 0, 14);
        h.entry(5, 0, 3, 7, 0, 600);
        C.is("a bill of all of them", h.bill(0, 5), 0);
        C.is("a line for each of the people and kinds", h.ofBill(0, 1), 24);
        for (int k = 0; k < 24; k++) {
            int rounded = (21 + k + 5) / 10 * 10 + (k == 23 ? 10 : 0);
            int[] due = {k / 4, k % 4, rounded, rounded};
            for (int what = 0; what <= 3; what++) {
                C.is("line " + k + ", " + what, h.line(0, k, what), due[what]);
            }
        }
        C.index("no line 24", () -> h.line(0, 24, 0));
        C.is("a bill of one", h.bill(0, 7), 1);
        C.is("has one line", h.ofBill(1, 1), 1);
        C.is("its minutes", h.line(1, 0, 2), 600);
        C.index("and not two", () -> h.line(1, 1, 0));
    }

    private static void linesAsTheyWere() {
        Real h = book(100, true, 60);
        h.setStep(0, 30, 1);
        h.entry(2, 0, 1, 0, 0, 31);
        h.entry(2, 0, 1, 1, 0, 61);
        h.bill(0, 1);
        for (int k = 0; k < 4; k++) {
            C.is("ROUNDED of both, " + k, h.line(0, 0, 2), 150);
            C.is("CHARGES of both, as the budget has cut them, " + k, h.line(0, 0, 3), 100);
            C.is("NET, " + k, h.ofBill(0, 2), 100);
            if (k == 0) {
                h.setStep(0, 1, 0);
            } else if (k == 1) {
                h.setBudget(0, 0, false);
            } else {
                C.is("a correction", h.change(1, 0, 10 + k), k == 2 ? 12 - 40 : 1);
            }
        }
    }

    private static void termsAsTheyWere() {
        Real h = book(0, false, 6000);
        h.setTerms(0, 10, 20);
        h.entry(0, 0, 0, 0, 0, 60);
        h.bill(0, 0);
        h.setTerms(0, 50, 0);
        int[] due = {0, 1, 6000, 600, 1080, 6480, 0, 0};
        for (int what = 0; what < due.length; what++) {
            C.is("as the terms were then, " + what, h.ofBill(0, what), due[what]);
        }
        h.change(0, 0, 30);
        h.bill(0, 0);
        int[] second = {0, 0, -3000, -1500, 0, -1500, -3000, 0};
        for (int what = 0; what < second.length; what++) {
            C.is("and as they are now, " + what, h.ofBill(1, what), second[what]);
        }
        C.is("the first one stays", h.ofBill(0, 5), 6480);
    }

    // ---- corrections

    private static void corrections() {
        Real h = book(0, false, 60);
        h.entry(0, 0, 0, 0, 0, 60);
        C.is("not billed: no correction", h.change(0, 0, 90), 0);
        C.is("none waits", h.ofProject(0, 5), 0);
        h.bill(0, 0);
        C.is("more", h.change(0, 0, 91), 1);
        C.is("less than the new one, not the first one", h.change(0, 0, 89), -2);
        C.is("the same", h.change(0, 0, 89), 0);
        C.is("other minutes, just as many", h.change(0, 1, 90), 0);
        C.is("the most", h.change(0, 0, 1440), 1440 - 89);
        C.is("the fewest", h.change(0, 1439, 1440), 1 - 1440);
        C.is("all wait", h.ofProject(0, 5), 1 - 90);
        C.is("the charge", h.ofEntry(0, 8), 1);
        C.is("still billed", h.ofEntry(0, 10), 0);
        C.is("it is no line", h.bill(0, 0) + h.ofBill(1, 1), 1);
        C.is("all are billed", h.ofBill(1, 6), 1 - 90);
        C.is("none waits any more", h.ofProject(0, 5), 0);
        C.is("the next one is less what it was corrected to", h.change(0, 0, 5), 4);
        h.dropRule(0);
        C.is("without a rule", h.change(0, 0, 5), -5);
        C.is("nothing is charged", h.ofProject(0, 1), 0);
    }

    private static void correctionsWhateverTheBudget() {
        Real h = book(10, true, 60);
        h.entry(0, 0, 0, 0, 0, 60);
        h.bill(0, 0);
        C.is("as it was billed", h.ofEntry(0, 8), 10);
        C.is("the same minutes, but the whole amount", h.change(0, 0, 60), 50);
        C.is("more than the budget", h.ofEntry(0, 8), 60);
        C.is("more than the budget is used", h.ofProject(0, 3), -50);
        C.is("and billed", h.wouldBill(0, 0), 50);
        Real rounded = book(0, false, 60);
        rounded.entry(0, 0, 0, 0, 0, 44);
        rounded.bill(0, 0);
        rounded.setStep(0, 30, 1);
        C.is("by the step as it is then", rounded.change(0, 0, 44), 16);
        rounded.setStep(0, 30, 2);
        C.is("and then", rounded.change(0, 0, 29), -60);
    }

    private static void correctionsOfOneProject() {
        Real h = book(0, false, 60);
        h.project(0, false);
        h.entry(0, 0, 0, 0, 0, 60);
        h.entry(1, 1, 0, 0, 0, 60);
        h.entry(2, 0, 0, 300, 0, 60);
        h.bill(0, 364);
        h.bill(1, 364);
        h.change(0, 0, 70);
        h.change(1, 0, 80);
        h.change(2, 0, 65);
        C.is("those of one project wait", h.ofProject(0, 5), 15);
        C.is("those of the other one too", h.ofProject(1, 5), 20);
        h.entry(0, 0, 0, 1, 0, 60);
        h.bill(0, 0);
        C.is("all of the project, also of a later day", h.ofBill(2, 6), 15);
        C.is("but no entry of a later day", h.ofBill(2, 1), 0);
        C.is("those of the other one wait on", h.ofProject(1, 5), 20);
        C.is("with entries and corrections", h.bill(0, 1), 3);
        C.is("which were none", h.ofBill(3, 2), 60);
        h.change(0, 0, 71);
        h.entry(0, 0, 0, 2, 0, 60);
        h.bill(0, 2);
        C.is("NET has both", h.ofBill(4, 2), 61);
        C.is("the line has the entry", h.line(4, 0, 3), 60);
    }

    // ---- taking back

    private static void takeBackInTurn() {
        Real h = book(0, false, 60);
        h.project(0, false);
        for (int k = 0; k < 4; k++) {
            h.entry(0, 0, 0, k, 0, 60);
            h.entry(1, 1, 0, k, 0, 60);
            h.bill(0, k);
            h.bill(1, k);
        }
        for (int bill = 0; bill <= 5; bill++) {
            int number = bill;
            state("20: not the last one, bill " + bill, () -> h.takeBack(number));
        }
        C.is("20: the last one of its project, though not of all", h.takeBack(6), 1);
        state("20: but once", () -> h.takeBack(6));
        state("20: not the one two ahead", () -> h.takeBack(2));
        C.is("20: then the one ahead of it", h.takeBack(4), 1);
        C.is("20: the last one of the other project", h.takeBack(7), 1);
        C.is("20: a new one", h.bill(0, 2), 8);
        state("20: the one ahead of the new one", () -> h.takeBack(2));
        C.is("20: the new one", h.takeBack(8), 1);
        C.is("20: the one ahead of it", h.takeBack(2), 1);
        C.is("20: the first one", h.takeBack(0), 1);
        state("20: none is left", () -> h.takeBack(0));
        C.is("20: the other project has two", h.takeBack(5) + h.takeBack(3) + h.takeBack(1), 3);
        C.is("20: bills ever", h.many(3), 9);
        C.is("20: all of one project again", h.bill(0, 364), 9);
        C.is("20: all four", h.ofBill(9, 2), 240);
    }

    private static void takeBackOfEntries() {
        Real h = book(100, true, 60);
        h.setTerms(0, 10, 10);
        h.entry(0, 0, 0, 5, 0, 60);
        h.entry(0, 0, 1, 6, 0, 60);
        h.bill(0, 6);
        h.entry(0, 0, 2, 4, 0, 60);
        C.is("nothing is left for an earlier day", h.ofEntry(2, 8), 0);
        C.is("how many are not billed any more", h.takeBack(0), 2);
        C.is("the bills of them", h.ofEntry(0, 10) + h.ofEntry(1, 10), -2);
        C.is("they come in order again", h.ofEntry(2, 8) * 10000 + h.ofEntry(0, 8) * 100 + h.ofEntry(1, 8), 604000);
        int[] due = {0, 0, 0, 0, 0, 0, 0, 1};
        for (int what = 0; what < due.length; what++) {
            C.is("of a bill that is taken back, " + what, h.ofBill(0, what), due[what]);
        }
        C.index("it has no lines", () -> h.line(0, 0, 0));
        C.is("they can be changed without a correction", h.change(0, 0, 30), 0);
        C.is("they can be taken out", h.take(1), 2);
        C.is("and billed", h.bill(0, 5), 1);
        C.is("with the minutes and the budget as they are", h.ofBill(1, 2), 90);
        Real other = book(0, false, 60);
        other.project(0, false);
        other.entry(0, 1, 0, 0, 0, 60);
        other.bill(1, 0);
        other.takeBack(0);
        C.is("its project is told of it on", other.ofBill(0, 0), 1);
    }

    private static void takeBackOfCorrections() {
        Real h = book(0, false, 60);
        h.entry(0, 0, 0, 0, 0, 60);
        h.entry(0, 0, 0, 1, 0, 60);
        h.bill(0, 0);
        h.change(0, 0, 70);
        h.change(0, 0, 75);
        h.bill(0, 1);
        h.change(0, 0, 76);
        C.is("corrections of the second bill", h.ofBill(1, 6), 15);
        C.is("NET has them", h.ofBill(1, 2), 75);
        h.takeBack(1);
        C.is("they wait again, with the one that waited", h.ofProject(0, 5), 16);
        C.is("the sum of its corrections is 0", h.ofBill(1, 6), 0);
        C.is("the entry of the first bill is billed on", h.ofEntry(0, 10), 0);
        C.is("with its charge as it was corrected", h.ofEntry(0, 8), 76);
        C.is("all in the next one", h.bill(0, 0), 2);
        C.is("their sum", h.ofBill(2, 6), 16);
        C.is("no entry of it", h.takeBack(2), 0);
        C.is("they wait once more", h.ofProject(0, 5), 16);
    }

    private static void takeBackDropsItsOwn() {
        Real h = book(0, false, 60);
        h.project(0, false);
        h.entry(0, 0, 0, 0, 0, 60);
        h.entry(0, 0, 0, 1, 0, 60);
        h.entry(1, 1, 0, 1, 0, 60);
        h.bill(0, 0);
        h.bill(0, 1);
        h.bill(1, 1);
        h.change(0, 0, 61);
        h.change(1, 0, 62);
        h.change(2, 0, 64);
        h.takeBack(1);
        C.is("those of its entries are dropped, others wait on", h.ofProject(0, 5), 1);
        C.is("those of another project too", h.ofProject(1, 5), 4);
        C.is("the minutes stay as they were changed", h.ofEntry(1, 5), 62);
        C.is("and are charged", h.ofEntry(1, 8), 62);
        C.is("once, not twice", h.wouldBill(0, 1), 63);
        h.bill(0, 1);
        h.takeBack(3);
        h.takeBack(0);
        C.is("what waited again is dropped with its entry's bill", h.ofProject(0, 5), 0);
        C.is("nothing but the entries", h.wouldBill(0, 364), 61 + 62);
        h.take(0);
        h.take(1);
        state("no correction is left", () -> h.bill(0, 364));
        C.is("of the other project it is", h.bill(1, 0), 4);
        Real zero = book(0, false, 60);
        zero.entry(0, 0, 0, 0, 0, 60);
        zero.bill(0, 0);
        zero.change(0, 0, 60);
        zero.takeBack(0);
        zero.take(0);
        state("a correction of 0 is dropped too", () -> zero.bill(0, 364));
    }

    private static void takeBackOfNothingButCorrections() {
        Real h = book(0, false, 60);
        h.entry(0, 0, 0, 0, 0, 60);
        h.bill(0, 0);
        h.change(0, 0, 60);
        C.is("a correction of 0", h.bill(0, 0), 1);
        C.is("no entries", h.takeBack(1), 0);
        C.is("it waits again", h.bill(0, 0), 2);
        state("the first one is not the last one", () -> h.takeBack(0));
        C.is("the second one", h.takeBack(2), 0);
        C.is("the first one", h.takeBack(0), 1);
        C.is("what is billed anew", h.bill(0, 0), 3);
        C.is("has no correction", h.ofBill(3, 6), 0);
        state("none waits", () -> h.bill(0, 0));
    }

    private static void wouldBill() {
        Real h = book(90, true, 60);
        h.setTerms(0, 50, 10);
        C.is("refused", h.wouldBill(0, 364), 0);
        h.entry(0, 0, 0, 3, 0, 60);
        h.entry(0, 0, 0, 9, 0, 60);
        C.is("refused up to that day", h.wouldBill(0, 2), 0);
        C.is("one", h.wouldBill(0, 3), 33);
        C.is("one up to the day ahead of the second", h.wouldBill(0, 8), 33);
        C.is("both, as the budget cuts them", h.wouldBill(0, 9), 50);
        C.is("no bill is made of it", h.many(3) + h.ofEntry(0, 10), -1);
        h.bill(0, 364);
        C.is("nothing more", h.wouldBill(0, 364), 0);
        C.is("as it would be", h.ofBill(0, 5), 50);
        h.change(0, 0, 60);
        C.is("a correction of 0", h.wouldBill(0, 0), 0);
        h.change(0, 0, 50);
        C.is("below nothing", h.wouldBill(0, 0), -5);
    }
}
