import java.util.ArrayList;
import java.util.List;

/** Books with something of everything, and all that can be seen of one: what two books that are alike have alike. */
final class Sample {
    /** In the ordinary book: one is more than there is. */
    static final int PROJECTS = 3;
    static final int RULES = 4;
    static final int ENTRIES = 11;
    static final int GONE = 10;
    static final int BILLS = 4;

    private Sample() {
    }

    /** Entries 0 to 3 are billed, 4 to 9 are not, 10 is gone; bill 3 is taken back; two corrections wait. */
    static void fill(Book b) {
        b.project(20000, true);
        b.project(9000, false);
        b.project(0, false);
        b.setStep(0, 15, 0);
        b.setStep(1, 6, 1);
        b.setStep(2, 30, 2);
        b.setTerms(0, 10, 19);
        b.setTerms(1, 5, 7);
        b.rule(true, 9000);
        b.rule(true, 6000);
        b.rule(false, 50);
        b.rule(false, -20);
        b.aim(0, 0, -1, -1);
        b.time(0, 0, 300, 0, 0, 1200);
        b.time(2, 0, 364, 2, 0, 1440);
        b.aim(3, -1, 1, 2);
        b.entry(0, 0, 0, 1, 540, 600);
        b.entry(1, 0, 1, 1, 540, 607);
        b.entry(0, 0, 0, 5, 540, 577);
        b.entry(2, 1, 2, 3, 600, 701);
        b.entry(2, 1, 2, 4, 600, 650);
        b.entry(3, 2, 3, 6, 0, 44);
        b.entry(4, 0, 2, 9, 1400, 1440);
        b.entry(5, 1, 1, 12, 0, 33);
        b.entry(0, 0, 0, 8, 540, 600);
        b.entry(0, 2, 0, 1, 600, 660);
        b.entry(1, 2, 0, 3, 100, 200);
        b.take(10);
        b.bill(0, 1);
        b.bill(1, 3);
        b.change(0, 540, 590);
        b.bill(0, 5);
        b.change(1, 540, 600);
        b.bill(2, 364);
        b.takeBack(3);
        b.change(3, 600, 690);
    }

    /** As many projects, rules, entries and bills as there can be; entry 59 is gone, bill 19 is taken back. */
    static void fillUp(Book b) {
        for (int p = 0; p < 6; p++) {
            b.project(p * 10000, p % 2 == 1);
            b.setTerms(p, p, 2 * p);
        }
        for (int r = 0; r < 10; r++) {
            b.rule(r > 7, r > 7 ? 5000 + 100 * r : 10 * r - 30);
            b.aim(r, r % 7 - 1, -1, r % 5 - 1);
        }
        for (int e = 0; e < 60; e++) {
            b.entry(e % 6, e / 3 % 6, e % 4, e, 10 * e, 12 * e + 30);
        }
        for (int k = 0; k < 20; k++) {
            b.bill(k % 6, 3 * k);
        }
        b.takeBack(19);
        b.take(59);
        b.change(0, 0, 77);
        b.change(3, 30, 100);
    }

    /** The answers of questions first; then of calls that change it, to bring out what no question tells. */
    static List<String> view(Book b) {
        List<String> seen = new ArrayList<>();
        see(seen, () -> b.digest());
        see(seen, () -> b.meanRate());
        for (int r = 0; r < 10; r++) {
            int rule = r;
            see(seen, () -> b.amountsWith(rule, 77));
        }
        for (int p = 0; p < 6; p++) {
            int project = p;
            see(seen, () -> b.wouldBill(project, 4));
            see(seen, () -> b.wouldBill(project, 364));
            see(seen, () -> b.worked(project, 0, 364));
        }
        probe(seen, b);
        settings(seen, b);
        undo(seen, b);
        see(seen, () -> b.digest());
        return seen;
    }

    /** New entries that bring out what the rules are for. */
    private static void probe(List<String> seen, Book b) {
        for (int k = 0; k < 14; k++) {
            int day = k < 7 ? 200 + k : 340 + k;
            int from = 103 * k;
            int person = k % 6;
            see(seen, () -> b.entry(person, day % 3, day % 4, day, from, 1440));
        }
        for (int k = 0; k < 14; k++) {
            int entry = Sample.ENTRIES + k;
            for (int minute : new int[] {599, 600, 1199, 1200, 1439}) {
                see(seen, () -> b.why(entry, minute));
            }
        }
        see(seen, () -> b.digest());
    }

    private static void settings(List<String> seen, Book b) {
        for (int p = 0; p < 6; p++) {
            int project = p;
            see(seen, () -> b.setTerms(project, 0, 0));
            see(seen, () -> b.setStep(project, 10, 0));
            see(seen, () -> b.setBudget(project, 5000, true));
        }
        see(seen, () -> b.digest());
        see(seen, () -> b.project(1, true));
        see(seen, () -> b.rule(false, 1));
        see(seen, () -> b.dropRule(0));
    }

    private static void undo(List<String> seen, Book b) {
        for (int p = 0; p < 6; p++) {
            int project = p;
            see(seen, () -> b.bill(project, 364));
        }
        see(seen, () -> b.digest());
        for (int bill = 19; bill >= 0; bill--) {
            int number = bill;
            see(seen, () -> b.takeBack(number));
        }
        for (int e = 0; e < 60; e += 3) {
            int entry = e;
            see(seen, () -> b.change(entry, 1, 2 + entry));
        }
    }

    private static void see(List<String> seen, Check.Call call) {
        seen.add(Check.outcome(call));
    }
}
