import java.util.List;

/**
 * Each argument of each call at both ends of its range: the first and the last that are allowed are answered as the
 * model answers them, then and in all that is asked afterwards; the first ones that are not throw what the document
 * names, and change nothing.
 */
public final class RangeTest {
    private static final int MIN = Integer.MIN_VALUE;
    private static final int MAX = Integer.MAX_VALUE;
    private static final String INDEX = "throws.java.lang.IndexOutOfBoundsException";
    private static final String ARGUMENT = "throws.java.lang.IllegalArgumentException";
    private static final String STATE = "throws.java.lang.IllegalStateException";
    private static final Check C = new Check("RangeTest");
    private static final List<String> UNTOUCHED = Sample.view(filled(new Real()));

    interface Call {
        Object on(Book b, int[] a);
    }

    /** A call with arguments that are right, none of which is as the book has it. */
    private record Ordinary(String name, Call call, int... right) {
        /** The argument with this place is right from low to high. */
        Ordinary range(int place, int low, int high, String thrown) {
            allowed(place, low);
            allowed(place, high);
            refused(place, thrown, low - 1, high + 1, MIN, MAX);
            return this;
        }

        Ordinary allowed(int place, int x) {
            Real mine = filled(new Real());
            Model due = filled(new Model());
            String answer = Check.outcome(() -> call.on(mine, with(place, x)));
            String answerDue = Check.outcome(() -> call.on(due, with(place, x)));
            C.is(told(place, x), answer, answerDue);
            C.is(told(place, x) + " is allowed", answer.startsWith("throws."), false);
            C.is("all that is asked behind " + told(place, x), Sample.view(mine), Sample.view(due));
            return this;
        }

        Ordinary refused(int place, String thrown, int... xs) {
            for (int x : xs) {
                Real mine = filled(new Real());
                C.is(told(place, x), Check.outcome(() -> call.on(mine, with(place, x))), thrown);
                C.is(told(place, x) + " changes nothing", Sample.view(mine), UNTOUCHED);
            }
            return this;
        }

        private int[] with(int place, int x) {
            int[] a = right.clone();
            a[place] = x;
            return a;
        }

        private String told(int place, int x) {
            StringBuilder told = new StringBuilder(name);
            for (int a : with(place, x)) {
                told.append(' ').append(a);
            }
            return told.toString();
        }
    }

    public static void main(String[] args) {
        sample();
        projects();
        rules();
        time();
        write();
        change();
        asked();
        bills();
        wouldBe();
        C.end();
    }

    private static <B extends Book> B filled(B b) {
        Sample.fill(b);
        return b;
    }

    private static void sample() {
        Real h = filled(new Real());
        C.is("its projects", h.many(0), Sample.PROJECTS);
        C.is("its rules", h.many(1), Sample.RULES);
        C.is("its entries", h.many(2), Sample.ENTRIES - 1);
        C.is("its bills", h.many(3), Sample.BILLS);
        C.is("one that a hard budget cuts", h.ofEntry(8, 8), 500);
        C.is("one that nothing is left for", h.ofEntry(6, 8), 0);
        C.is("one that is over", h.ofEntry(4, 9), 1);
        C.is("a correction of a bill", h.ofBill(2, 6), -2250);
        C.is("a correction that waits", h.ofProject(1, 5), -960);
        C.is("as the model has it", UNTOUCHED, Sample.view(filled(new Model())));
    }

    private static void projects() {
        new Ordinary("2: project", (b, a) -> b.project(a[0], a[1] == 1), 15000, 1)
                .range(0, 0, 10000000, ARGUMENT);
        new Ordinary("3: setBudget", (b, a) -> b.setBudget(a[0], a[1], a[2] == 1), 0, 23000, 0)
                .range(0, 0, Sample.PROJECTS - 1, INDEX)
                .range(1, 0, 10000000, ARGUMENT);
        new Ordinary("3: setBudget", (b, a) -> b.setBudget(a[0], a[1], a[2] == 1), 1, 11000, 1)
                .range(1, 0, 10000000, ARGUMENT);
        Ordinary setStep = new Ordinary("4: setStep", (b, a) -> b.setStep(a[0], a[1], a[2]), 0, 10, 2)
                .range(0, 0, Sample.PROJECTS - 1, INDEX)
                .range(2, 0, 2, ARGUMENT);
        for (int step = -2; step <= 61; step++) {
            if (List.of(1, 5, 6, 10, 15, 30).contains(step)) {
                setStep.allowed(1, step);
            } else {
                setStep.refused(1, ARGUMENT, step);
            }
        }
        setStep.refused(1, ARGUMENT, MIN, MAX);
        new Ordinary("5: setTerms", (b, a) -> b.setTerms(a[0], a[1], a[2]), 0, 33, 44)
                .range(0, 0, Sample.PROJECTS - 1, INDEX)
                .range(1, 0, 100, ARGUMENT)
                .range(2, 0, 100, ARGUMENT);
    }

    private static void rules() {
        new Ordinary("6: rule FIX", (b, a) -> b.rule(true, a[0]), 700).range(0, 0, 50000, ARGUMENT);
        new Ordinary("6: rule PLUS", (b, a) -> b.rule(false, a[0]), 70).range(0, -90, 200, ARGUMENT);
        new Ordinary("7: aim", (b, a) -> b.aim(a[0], a[1], a[2], a[3]), 0, 1, 0, 1)
                .range(0, 0, Sample.RULES - 1, INDEX)
                .range(1, -1, 5, ARGUMENT)
                .range(2, -1, 5, ARGUMENT)
                .range(3, -1, 3, ARGUMENT);
        new Ordinary("9: dropRule", (b, a) -> b.dropRule(a[0]), 0).range(0, 0, Sample.RULES - 1, INDEX);
    }

    private static void time() {
        Call time = (b, a) -> b.time(a[0], a[1], a[2], a[3], a[4], a[5]);
        new Ordinary("8: time", time, 0, 3, 204, 1, 550, 560)
                .range(0, 0, Sample.RULES - 1, INDEX)
                .range(1, 0, 204, ARGUMENT)
                .range(2, 3, 364, ARGUMENT)
                .range(3, 0, 2, ARGUMENT)
                .range(4, 0, 559, ARGUMENT)
                .range(5, 551, 1440, ARGUMENT);
        new Ordinary("8: time", time, 2, 0, 364, 2, 0, 1440)
                .range(1, 0, 364, ARGUMENT)
                .range(2, 0, 364, ARGUMENT)
                .range(4, 0, 1439, ARGUMENT)
                .range(5, 1, 1440, ARGUMENT);
        new Ordinary("8: time", time, 1, 364, 364, 0, 1439, 1440)
                .range(2, 364, 364, ARGUMENT)
                .range(5, 1440, 1440, ARGUMENT);
    }

    private static void write() {
        Call entry = (b, a) -> b.entry(a[0], a[1], a[2], a[3], a[4], a[5]);
        new Ordinary("10: entry", entry, 5, 2, 3, 306, 100, 200)
                .range(0, 0, 5, ARGUMENT)
                .range(1, 0, Sample.PROJECTS - 1, INDEX)
                .range(2, 0, 3, ARGUMENT)
                .range(3, 0, 364, ARGUMENT)
                .range(4, 0, 199, ARGUMENT)
                .range(5, 101, 1440, ARGUMENT);
        new Ordinary("10: entry", entry, 0, 0, 0, 7, 0, 1440)
                .range(4, 0, 1439, ARGUMENT)
                .range(5, 1, 1440, ARGUMENT);
    }

    private static void change() {
        Call change = (b, a) -> b.change(a[0], a[1], a[2]);
        new Ordinary("11: change", change, 8, 100, 200)
                .range(0, 0, Sample.GONE - 1, INDEX)
                .refused(0, INDEX, Sample.GONE, Sample.ENTRIES, 60)
                .range(1, 0, 199, ARGUMENT)
                .range(2, 101, 1440, ARGUMENT);
        new Ordinary("11: change, billed", change, 2, 0, 1440)
                .range(1, 0, 1439, ARGUMENT)
                .range(2, 1, 1440, ARGUMENT);
        new Ordinary("12: take", (b, a) -> b.take(a[0]), 8)
                .allowed(0, 4)
                .allowed(0, 9)
                .refused(0, STATE, 0, 1, 2, 3)
                .refused(0, INDEX, MIN, -1, Sample.GONE, Sample.ENTRIES, 60, MAX);
    }

    private static void asked() {
        new Ordinary("13: many", (b, a) -> b.many(a[0]), 0).range(0, 0, 3, ARGUMENT);
        new Ordinary("14: ofEntry", (b, a) -> b.ofEntry(a[0], a[1]), 3, 8)
                .range(0, 0, Sample.GONE - 1, INDEX)
                .refused(0, INDEX, Sample.GONE, Sample.ENTRIES, 60)
                .range(1, 0, 10, ARGUMENT);
        minutes("15: rate", (b, a) -> b.rate(a[0], a[1]));
        minutes("16: why", (b, a) -> b.why(a[0], a[1]));
        new Ordinary("17: ofProject", (b, a) -> b.ofProject(a[0], a[1]), 0, 1)
                .range(0, 0, Sample.PROJECTS - 1, INDEX)
                .range(1, 0, 5, ARGUMENT);
        new Ordinary("18: worked", (b, a) -> b.worked(a[0], a[1], a[2]), 0, 1, 8)
                .range(0, 0, 5, ARGUMENT)
                .range(1, 0, 364, ARGUMENT)
                .range(2, 0, 364, ARGUMENT);
    }

    private static void minutes(String name, Call call) {
        new Ordinary(name, call, 8, 570)
                .allowed(0, 2)
                .allowed(0, 8)
                .refused(0, INDEX, MIN, -1, Sample.GONE, Sample.ENTRIES, 60, MAX)
                .range(1, 540, 599, ARGUMENT);
        new Ordinary(name + ", at the end of a day", call, 6, 1439).range(1, 1400, 1439, ARGUMENT);
        new Ordinary(name + ", at its beginning", call, 5, 0).range(1, 0, 43, ARGUMENT);
        new Ordinary(name + ", billed and changed", call, 0, 540).range(1, 540, 589, ARGUMENT);
    }

    private static void bills() {
        new Ordinary("19: bill", (b, a) -> b.bill(a[0], a[1]), 0, 8)
                .range(0, 0, Sample.PROJECTS - 1, INDEX)
                .range(1, 0, 364, ARGUMENT);
        new Ordinary("19: bill, day by day", (b, a) -> b.bill(a[0], a[1]), 2, 6)
                .allowed(1, 1)
                .allowed(1, 6)
                .refused(1, STATE, 0)
                .refused(1, ARGUMENT, -1, 365);
        new Ordinary("20: takeBack", (b, a) -> b.takeBack(a[0]), 2)
                .allowed(0, 1)
                .allowed(0, 2)
                .refused(0, STATE, 0, 3)
                .refused(0, INDEX, MIN, -1, Sample.BILLS, 20, MAX);
        new Ordinary("21: ofBill", (b, a) -> b.ofBill(a[0], a[1]), 2, 5)
                .range(0, 0, Sample.BILLS - 1, INDEX)
                .range(1, 0, 7, ARGUMENT);
        new Ordinary("22: line", (b, a) -> b.line(a[0], a[1], a[2]), 0, 0, 3)
                .range(0, 0, Sample.BILLS - 2, INDEX)
                .refused(0, INDEX, Sample.BILLS, 20)
                .range(1, 0, 1, INDEX)
                .range(2, 0, 3, ARGUMENT);
    }

    private static void wouldBe() {
        new Ordinary("23: wouldBill", (b, a) -> b.wouldBill(a[0], a[1]), 0, 8)
                .range(0, 0, Sample.PROJECTS - 1, INDEX)
                .range(1, 0, 364, ARGUMENT);
        new Ordinary("24: without", (b, a) -> b.without(a[0]), 1).range(0, 0, Sample.RULES - 1, INDEX);
        new Ordinary("25: amountsWith FIX", (b, a) -> b.amountsWith(a[0], a[1]), 1, 30)
                .range(0, 0, Sample.RULES - 1, INDEX)
                .range(1, 0, 50000, ARGUMENT);
        new Ordinary("25: amountsWith PLUS", (b, a) -> b.amountsWith(a[0], a[1]), 2, 30)
                .range(1, -90, 200, ARGUMENT);
        new Ordinary("26: overOn", (b, a) -> b.overOn(a[0]), 1).range(0, 0, Sample.PROJECTS - 1, INDEX);
    }
}
