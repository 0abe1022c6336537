import java.util.List;

/**
 * Each exception that a state of the book brings about, not an argument alone, and of several exceptions the one that
 * is named first; each of these calls changes nothing of all that can be asked or done afterwards.
 */
public final class RefusalTest {
    private static final int MIN = Integer.MIN_VALUE;
    private static final int MAX = Integer.MAX_VALUE;
    private static final String INDEX = "throws.java.lang.IndexOutOfBoundsException";
    private static final String ARGUMENT = "throws.java.lang.IllegalArgumentException";
    private static final String STATE = "throws.java.lang.IllegalStateException";
    private static final Check C = new Check("RefusalTest");

    /** How a book is made that calls are refused by, and what is seen of one that none was refused by. */
    private enum Kind {
        EMPTY {
            @Override
            void fill(Book b) {
                // A new book is the empty one.
            }
        },
        ORDINARY {
            @Override
            void fill(Book b) {
                Sample.fill(b);
            }
        },
        FULL {
            @Override
            void fill(Book b) {
                Sample.fillUp(b);
            }
        };

        abstract void fill(Book b);

        Real made() {
            Real made = new Real();
            fill(made);
            return made;
        }
    }

    private static final List<List<String>> UNTOUCHED = List.of(Sample.view(Kind.EMPTY.made()),
            Sample.view(Kind.ORDINARY.made()), Sample.view(Kind.FULL.made()));

    interface Call {
        Object on(Book b);
    }

    public static void main(String[] args) {
        full();
        fullFirstNamed();
        empty();
        entry();
        change();
        take();
        bill();
        takeBack();
        line();
        firstNamedOfProjectsAndRules();
        firstNamedOfEntriesAndBills();
        twice();
        C.end();
    }

    private static void refused(Kind kind, String told, String due, Call call) {
        Real mine = kind.made();
        C.is(told, Check.outcome(() -> call.on(mine)), due);
        C.is(told + ": changes nothing", Sample.view(mine), UNTOUCHED.get(kind.ordinal()));
    }

    private static void full() {
        Model model = new Model();
        Sample.fillUp(model);
        C.is("the full book is as the model has it", UNTOUCHED.get(Kind.FULL.ordinal()), Sample.view(model));
        Real h = Kind.FULL.made();
        C.is("as many projects as there can be", h.many(0), 6);
        C.is("as many rules as there can be", h.many(1), 10);
        C.is("as many entries as there can be, one of them gone", h.many(2), 59);
        C.is("as many bills as there can be, one of them taken back", h.many(3) + h.ofBill(19, 7), 21);
        refused(Kind.FULL, "2: a seventh project", STATE, b -> b.project(100, true));
        refused(Kind.FULL, "2: a seventh project without a budget", STATE, b -> b.project(0, false));
        refused(Kind.FULL, "6: an eleventh rule, FIX", STATE, b -> b.rule(true, 100));
        refused(Kind.FULL, "6: an eleventh rule, PLUS", STATE, b -> b.rule(false, 100));
        refused(Kind.FULL, "10: a 61st entry", STATE, b -> b.entry(0, 0, 0, 364, 0, 1));
        refused(Kind.FULL, "10: a 61st entry where the one was that is gone", STATE,
                b -> b.entry(5, 1, 3, 59, 590, 738));
        refused(Kind.FULL, "10: a 61st entry that has a minute of another one too", STATE,
                b -> b.entry(0, 0, 0, 0, 0, 1));
        refused(Kind.FULL, "19: a 21st bill, with entries", STATE, b -> b.bill(1, 364));
        refused(Kind.FULL, "19: a 21st bill, with a correction", STATE, b -> b.bill(0, 0));
        refused(Kind.FULL, "19: a 21st bill, with nothing", STATE, b -> b.bill(5, 0));
    }

    private static void fullFirstNamed() {
        for (int budget : new int[] {MIN, -1, 10000001, MAX}) {
            refused(Kind.FULL, "2: a seventh project, and budget " + budget, ARGUMENT, b -> b.project(budget, true));
        }
        for (int n : new int[] {MIN, -1, 50001, MAX}) {
            refused(Kind.FULL, "6: an eleventh rule, and rate " + n, ARGUMENT, b -> b.rule(true, n));
        }
        for (int n : new int[] {MIN, -91, 201, MAX}) {
            refused(Kind.FULL, "6: an eleventh rule, and percents " + n, ARGUMENT, b -> b.rule(false, n));
        }
        int[][] wrong = {{-1, 0, 0, 0, 1}, {6, 0, 0, 0, 1}, {0, -1, 0, 0, 1}, {0, 4, 0, 0, 1}, {0, 0, -1, 0, 1},
            {0, 0, 365, 0, 1}, {0, 0, 0, -1, 1}, {0, 0, 0, 1440, 1441}, {0, 0, 0, 5, 5}, {0, 0, 0, 5, 1441}};
        for (int k = 0; k < wrong.length; k++) {
            int[] a = wrong[k];
            refused(Kind.FULL, "10: a 61st entry, and wrong argument " + k, ARGUMENT,
                    b -> b.entry(a[0], 0, a[1], a[2], a[3], a[4]));
            refused(Kind.FULL, "10: a 61st entry, wrong argument " + k + ", and no such project", INDEX,
                    b -> b.entry(a[0], 6, a[1], a[2], a[3], a[4]));
        }
        refused(Kind.FULL, "10: a 61st entry, and no such project", INDEX, b -> b.entry(0, -1, 0, 364, 0, 1));
        for (int day : new int[] {MIN, -1, 365, MAX}) {
            refused(Kind.FULL, "19: a 21st bill, and day " + day, ARGUMENT, b -> b.bill(1, day));
            refused(Kind.FULL, "19: a 21st bill, day " + day + ", and no such project", INDEX, b -> b.bill(6, day));
        }
        refused(Kind.FULL, "19: a 21st bill, and no such project", INDEX, b -> b.bill(-1, 364));
    }

    private static void empty() {
        Call[] calls = {b -> b.setBudget(0, 0, true), b -> b.setStep(0, 5, 1), b -> b.setTerms(0, 1, 1),
            b -> b.aim(0, 0, 0, 0), b -> b.time(0, 0, 1, 0, 0, 1), b -> b.dropRule(0), b -> b.entry(0, 0, 0, 0, 0, 1),
            b -> b.change(0, 0, 1), b -> b.take(0), b -> b.ofEntry(0, 0), b -> b.rate(0, 0), b -> b.why(0, 0),
            b -> b.ofProject(0, 0), b -> b.bill(0, 0), b -> b.takeBack(0), b -> b.ofBill(0, 0), b -> b.line(0, 0, 0),
            b -> b.wouldBill(0, 0), b -> b.without(0), b -> b.amountsWith(0, 0), b -> b.overOn(0)};
        for (int k = 0; k < calls.length; k++) {
            refused(Kind.EMPTY, "of a new book, call " + k, INDEX, calls[k]);
        }
    }

    private static void entry() {
        int[][] taken = {{599, 1440}, {0, 541}, {550, 560}, {539, 601}, {540, 600}, {599, 600}, {540, 541}, {0, 1440}};
        for (int[] t : taken) {
            String told = "10: from " + t[0] + " to " + t[1];
            refused(Kind.ORDINARY, told, STATE, b -> b.entry(0, 0, 0, 8, t[0], t[1]));
            refused(Kind.ORDINARY, told + ", for another project and kind", STATE,
                    b -> b.entry(0, 2, 3, 8, t[0], t[1]));
        }
        refused(Kind.ORDINARY, "10: a minute of a billed one", STATE, b -> b.entry(0, 1, 0, 1, 589, 590));
        refused(Kind.ORDINARY, "10: no such project", INDEX, b -> b.entry(0, 3, 0, 8, 0, 1));
    }

    private static void change() {
        refused(Kind.ORDINARY, "11: up to a minute of another one", STATE, b -> b.change(0, 540, 601));
        refused(Kind.ORDINARY, "11: of a billed one, all minutes of another one", STATE, b -> b.change(0, 600, 660));
        refused(Kind.ORDINARY, "11: the last minute of a billed one", STATE, b -> b.change(9, 589, 660));
        refused(Kind.ORDINARY, "11: around another one", STATE, b -> b.change(9, 0, 1440));
        for (int entry : new int[] {MIN, -1, Sample.GONE, Sample.ENTRIES, 59, 60, MAX}) {
            refused(Kind.ORDINARY, "11: entry " + entry, INDEX, b -> b.change(entry, 0, 1));
            refused(Kind.ORDINARY, "11: entry " + entry + ", and wrong minutes", INDEX, b -> b.change(entry, 1, 1));
        }
        for (int[] t : new int[][] {{600, 1441}, {-1, 700}, {640, 640}, {1440, 1440}, {641, 640}, {MIN, MAX}}) {
            String told = "11: from " + t[0] + " to " + t[1];
            refused(Kind.ORDINARY, told + ", billed", ARGUMENT, b -> b.change(0, t[0], t[1]));
            refused(Kind.ORDINARY, told, ARGUMENT, b -> b.change(8, t[0], t[1]));
        }
    }

    private static void take() {
        for (int entry = 0; entry <= 3; entry++) {
            int number = entry;
            refused(Kind.ORDINARY, "12: billed entry " + entry, STATE, b -> b.take(number));
        }
        refused(Kind.ORDINARY, "12: one that is gone", INDEX, b -> b.take(Sample.GONE));
    }

    private static void bill() {
        refused(Kind.ORDINARY, "19: no entry up to that day, and no correction", STATE, b -> b.bill(2, 0));
        Real mine = Kind.ORDINARY.made();
        mine.bill(0, 8);
        refusedBehind(mine, "19: nothing more up to that day", STATE, b -> b.bill(0, 8));
        refused(Kind.ORDINARY, "19: nothing, and a wrong day", ARGUMENT, b -> b.bill(2, -1));
        refused(Kind.ORDINARY, "19: no such project", INDEX, b -> b.bill(3, 364));
    }

    /** A call that is refused by a book that is not as one of the kinds. */
    private static void refusedBehind(Real mine, String told, String due, Call call) {
        long before = mine.digest();
        C.is(told, Check.outcome(() -> call.on(mine)), due);
        C.is(told + ": changes nothing", mine.digest(), before);
    }

    private static void takeBack() {
        refused(Kind.ORDINARY, "20: not the last one of its project", STATE, b -> b.takeBack(0));
        refused(Kind.ORDINARY, "20: one that is taken back", STATE, b -> b.takeBack(3));
        for (int bill : new int[] {MIN, -1, Sample.BILLS, 19, 20, MAX}) {
            refused(Kind.ORDINARY, "20: bill " + bill, INDEX, b -> b.takeBack(bill));
        }
        for (int bill = 0; bill <= 12; bill++) {
            int number = bill;
            refused(Kind.FULL, "20: not the last one of its project, bill " + bill, STATE, b -> b.takeBack(number));
        }
        refused(Kind.FULL, "20: the last one of all, taken back", STATE, b -> b.takeBack(19));
        refused(Kind.FULL, "20: bill 20", INDEX, b -> b.takeBack(20));
    }

    private static void line() {
        refused(Kind.ORDINARY, "22: of a bill that is taken back", INDEX, b -> b.line(3, 0, 0));
        refused(Kind.ORDINARY, "22: of a bill that is taken back, and a wrong what", INDEX, b -> b.line(3, 0, 4));
        refused(Kind.ORDINARY, "22: no such line, and a wrong what", INDEX, b -> b.line(0, 2, -1));
        refused(Kind.ORDINARY, "22: no such line of the second bill", INDEX, b -> b.line(1, 1, 0));
        refused(Kind.ORDINARY, "22: no such bill, and a wrong what", INDEX, b -> b.line(4, 0, 4));
    }

    private static void firstNamedOfProjectsAndRules() {
        for (int p : new int[] {MIN, -1, Sample.PROJECTS, 5, 6, MAX}) {
            String told = ": project " + p + ", and wrong arguments";
            refused(Kind.ORDINARY, "3" + told, INDEX, b -> b.setBudget(p, -1, true));
            refused(Kind.ORDINARY, "4" + told, INDEX, b -> b.setStep(p, 2, 3));
            refused(Kind.ORDINARY, "5" + told, INDEX, b -> b.setTerms(p, -1, 101));
            refused(Kind.ORDINARY, "17" + told, INDEX, b -> b.ofProject(p, 6));
            refused(Kind.ORDINARY, "19" + told, INDEX, b -> b.bill(p, 365));
            refused(Kind.ORDINARY, "23" + told, INDEX, b -> b.wouldBill(p, 365));
        }
        for (int r : new int[] {MIN, -1, Sample.RULES, 9, 10, MAX}) {
            String told = ": rule " + r + ", and wrong arguments";
            refused(Kind.ORDINARY, "7" + told, INDEX, b -> b.aim(r, 6, 6, 4));
            refused(Kind.ORDINARY, "8" + told, INDEX, b -> b.time(r, -1, 365, 3, 5, 5));
            refused(Kind.ORDINARY, "25" + told, INDEX, b -> b.amountsWith(r, MAX));
        }
    }

    private static void firstNamedOfEntriesAndBills() {
        for (int e : new int[] {MIN, -1, Sample.GONE, Sample.ENTRIES, 60, MAX}) {
            String told = ": entry " + e + ", and wrong arguments";
            refused(Kind.ORDINARY, "11" + told, INDEX, b -> b.change(e, -1, 1441));
            refused(Kind.ORDINARY, "14" + told, INDEX, b -> b.ofEntry(e, 11));
            refused(Kind.ORDINARY, "15" + told, INDEX, b -> b.rate(e, 1440));
            refused(Kind.ORDINARY, "16" + told, INDEX, b -> b.why(e, 1440));
        }
        for (int[] a : new int[][] {{6, 0, 8, 550, 560}, {0, 4, 8, 550, 560}, {0, 0, 8, 550, 1441}}) {
            refused(Kind.ORDINARY, "10: taken, and wrong arguments", ARGUMENT,
                    b -> b.entry(a[0], 0, a[1], a[2], a[3], a[4]));
            refused(Kind.ORDINARY, "10: taken, wrong arguments, and no such project", INDEX,
                    b -> b.entry(a[0], 3, a[1], a[2], a[3], a[4]));
        }
        refused(Kind.ORDINARY, "10: taken, and no such project", INDEX, b -> b.entry(0, 3, 0, 8, 550, 560));
        refused(Kind.ORDINARY, "11: taken, and wrong minutes", ARGUMENT, b -> b.change(9, 550, 1441));
        refused(Kind.ORDINARY, "11: taken, and gone", INDEX, b -> b.change(Sample.GONE, 0, 1440));
        for (int bill : new int[] {MIN, -1, Sample.BILLS, 20, MAX}) {
            refused(Kind.ORDINARY, "21: bill " + bill + ", and wrong arguments", INDEX, b -> b.ofBill(bill, 8));
            refused(Kind.ORDINARY, "22: bill " + bill + ", and wrong arguments", INDEX, b -> b.line(bill, -1, 4));
        }
    }

    /** A call that is refused is refused again, and leaves room for what is right. */
    private static void twice() {
        Real h = Kind.ORDINARY.made();
        for (int k = 0; k < 70; k++) {
            C.is("10: refused " + k, Check.outcome(() -> h.entry(0, 0, 0, 8, 599, 700)), STATE);
            C.is("19: refused " + k, Check.outcome(() -> h.bill(2, 0)), STATE);
            C.is("2: refused " + k, Check.outcome(() -> h.project(-1, false)), ARGUMENT);
            C.is("6: refused " + k, Check.outcome(() -> h.rule(true, -1)), ARGUMENT);
        }
        C.is("10: its number is the next one", h.entry(0, 0, 0, 8, 600, 700), Sample.ENTRIES);
        C.is("19: its number is the next one", h.bill(2, 364), Sample.BILLS);
        C.is("2: its number is the next one", h.project(0, false), Sample.PROJECTS);
        C.is("6: its number is the next one", h.rule(true, 0), Sample.RULES);
    }
}
