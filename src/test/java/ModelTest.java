/** Long runs of calls, the same ones at each start, on a Hourbook and on the model: every answer must be the same. */
public final class ModelTest {
    private static final int RUNS = 240;
    private static final int CALLS = 512;

    private final Check check = new Check("ModelTest");
    private long seed;
    private Real book;
    private Model model;
    private int run;
    private int call;
    private int days;

    public static void main(String[] args) {
        ModelTest test = new ModelTest();
        for (int run = 0; run < RUNS && test.check.wrong() == 0; run++) {
            test.oneRun(run);
        }
        test.check.end();
    }

    private void oneRun(int number) {
        run = number;
        seed = 88172645463325252L + 7919L * number;
        book = new Real();
        model = new Model();
        days = pick(3) == 0 ? 365 : 4 + pick(20);
        int projects = 1 + pick(6);
        for (int k = 0; k < projects; k++) {
            addProject();
        }
        for (call = projects; call < CALLS && check.wrong() == 0; call++) {
            if (call % 127 == 100 || call == CALLS - 1) {
                same("digest()", () -> book.digest(), () -> model.digest());
            } else {
                oneCall(pick(100));
            }
        }
    }

    private void oneCall(int dice) {
        if (dice < 8) {
            settings(pick(4));
        } else if (dice < 24) {
            rules(pick(8));
        } else if (dice < 44) {
            write();
        } else if (dice < 60) {
            change(pick(6));
        } else if (dice < 74) {
            bills(pick(6));
        } else {
            ask(pick(14));
        }
    }

    private void addProject() {
        int budget = some(pick(3) == 0 ? 0 : pick(2) == 0 ? pick(100000) : pick(10000001));
        boolean isHard = pick(2) == 0;
        same("project(" + budget + ", " + isHard + ")", () -> book.project(budget, isHard),
                () -> model.project(budget, isHard));
    }

    private void settings(int which) {
        int p = aProject();
        int a = some(pick(101));
        int b = some(pick(101));
        int step = some(new int[] {1, 5, 6, 10, 15, 30}[pick(6)]);
        int way = some(pick(3));
        int budget = some(pick(4) == 0 ? 0 : pick(2) == 0 ? pick(200000) : pick(10000001));
        boolean isHard = pick(2) == 0;
        if (which == 0) {
            same("setBudget(" + p + ", " + budget + ", " + isHard + ")", () -> book.setBudget(p, budget, isHard),
                    () -> model.setBudget(p, budget, isHard));
        } else if (which == 1) {
            same("setStep(" + p + ", " + step + ", " + way + ")", () -> book.setStep(p, step, way),
                    () -> model.setStep(p, step, way));
        } else if (which == 2) {
            same("setTerms(" + p + ", " + a + ", " + b + ")", () -> book.setTerms(p, a, b),
                    () -> model.setTerms(p, a, b));
        } else if (pick(4) == 0) {
            addProject();
        }
    }

    private void rules(int which) {
        int r = some(pick(model.rules.size() + 1));
        int n = some(pick(50001));
        int percents = some(pick(3) == 0 ? pick(291) - 90 : pick(60) - 30);
        if (which < 2) {
            same("rule(true, " + n + ")", () -> book.rule(true, n), () -> model.rule(true, n));
        } else if (which < 4) {
            same("rule(false, " + percents + ")", () -> book.rule(false, percents), () -> model.rule(false, percents));
        } else if (which == 4) {
            int person = some(pick(2) == 0 ? -1 : pick(7) - 1);
            int p = some(pick(2) == 0 ? -1 : pick(7) - 1);
            int kind = some(pick(2) == 0 ? -1 : pick(5) - 1);
            same("aim(" + r + ", " + person + ", " + p + ", " + kind + ")", () -> book.aim(r, person, p, kind),
                    () -> model.aim(r, person, p, kind));
        } else if (which == 5 || which == 6) {
            int first = some(pick(days));
            int last = some(pick(3) == 0 ? pick(days) : Math.min(364, first + pick(days)));
            int sort = some(pick(3));
            int from = some(pick(1440));
            int to = some(pick(4) == 0 ? 1440 : from + pick(600));
            same("time(" + r + ", " + first + ", " + last + ", " + sort + ", " + from + ", " + to + ")",
                    () -> book.time(r, first, last, sort, from, to),
                    () -> model.time(r, first, last, sort, from, to));
        } else if (pick(2) == 0) {
            same("dropRule(" + r + ")", () -> book.dropRule(r), () -> model.dropRule(r));
        }
    }

    private void write() {
        // Not all of the 60 are to be spent in the first third of a run.
        if (pick(3) == 0) {
            return;
        }
        int person = some(pick(6));
        int p = aProject();
        int kind = some(pick(4));
        int day = some(pick(days));
        int from = some(pick(2) == 0 ? pick(1440) : 60 * (8 + pick(10)));
        int to = some(pick(12) == 0 ? 1440 : from + 1 + pick(200));
        same("entry(" + person + ", " + p + ", " + kind + ", " + day + ", " + from + ", " + to + ")",
                () -> book.entry(person, p, kind, day, from, to),
                () -> model.entry(person, p, kind, day, from, to));
    }

    private void change(int which) {
        int e = anEntry();
        if (which == 0) {
            if (pick(2) == 0) {
                same("take(" + e + ")", () -> book.take(e), () -> model.take(e));
            }
            return;
        }
        boolean isThere = e >= 0 && e < model.entries.size();
        int from = some(isThere && pick(2) == 0 ? model.entries.get(e).from : pick(1440));
        int to = some(isThere && pick(4) == 0 ? model.entries.get(e).to : from + 1 + pick(200));
        same("change(" + e + ", " + from + ", " + to + ")", () -> book.change(e, from, to),
                () -> model.change(e, from, to));
    }

    private void bills(int which) {
        int p = aProject();
        int day = some(pick(days));
        int b = pick(3) == 0 ? some(pick(20)) : model.bills.size() - 1 - pick(3);
        if (which == 0) {
            same("bill(" + p + ", " + day + ")", () -> book.bill(p, day), () -> model.bill(p, day));
        } else if (which == 1 && pick(2) == 0) {
            same("takeBack(" + b + ")", () -> book.takeBack(b), () -> model.takeBack(b));
        } else if (which == 2 || which == 1) {
            int what = some(pick(8));
            same("ofBill(" + b + ", " + what + ")", () -> book.ofBill(b, what), () -> model.ofBill(b, what));
        } else if (which == 3 || which == 4) {
            int line = some(pick(6));
            int what = some(pick(4));
            same("line(" + b + ", " + line + ", " + what + ")", () -> book.line(b, line, what),
                    () -> model.line(b, line, what));
        } else {
            same("wouldBill(" + p + ", " + day + ")", () -> book.wouldBill(p, day), () -> model.wouldBill(p, day));
        }
    }

    private void ask(int which) {
        int e = anEntry();
        int p = aProject();
        int r = some(pick(model.rules.size() + 1));
        int n = some(pick(2) == 0 ? pick(50001) : pick(291) - 90);
        int what = some(pick(11));
        boolean isThere = e >= 0 && e < model.entries.size();
        int minute = some(isThere ? model.entries.get(e).from + pick(60) - 2 : pick(1440));
        int first = some(pick(days));
        int last = some(pick(days));
        switch (which) {
            case 0: same("many(" + what + ")", () -> book.many(what), () -> model.many(what)); break;
            case 1: same("rate(" + e + ", " + minute + ")", () -> book.rate(e, minute), () -> model.rate(e, minute));
                break;
            case 2: same("why(" + e + ", " + minute + ")", () -> book.why(e, minute), () -> model.why(e, minute));
                break;
            case 3: case 4: case 5: same("ofProject(" + p + ", " + what + ")", () -> book.ofProject(p, what),
                    () -> model.ofProject(p, what)); break;
            case 6: same("worked(" + r + ", " + first + ", " + last + ")", () -> book.worked(r, first, last),
                    () -> model.worked(r, first, last)); break;
            case 7: same("without(" + r + ")", () -> book.without(r), () -> model.without(r)); break;
            case 8: same("amountsWith(" + r + ", " + n + ")", () -> book.amountsWith(r, n),
                    () -> model.amountsWith(r, n)); break;
            case 9: same("overOn(" + p + ")", () -> book.overOn(p), () -> model.overOn(p)); break;
            case 10: same("meanRate()", () -> book.meanRate(), () -> model.meanRate()); break;
            default: same("ofEntry(" + e + ", " + what + ")", () -> book.ofEntry(e, what),
                    () -> model.ofEntry(e, what)); break;
        }
    }

    private void same(String what, Check.Call mine, Check.Call due) {
        check.is("run " + run + ", call " + call + ": " + what, Check.outcome(mine), Check.outcome(due));
    }

    private int aProject() {
        return some(pick(20) == 0 ? pick(7) : pick(Math.max(1, model.projects.size())));
    }

    private int anEntry() {
        return some(pick(Math.max(1, model.entries.size() + 1)));
    }

    /** Now and then a number that is just outside, or far outside, instead of the ordinary one. */
    private int some(int ordinary) {
        int dice = pick(200);
        if (dice > 3) {
            return ordinary;
        }
        return new int[] {-1, ordinary + 1, Integer.MIN_VALUE, Integer.MAX_VALUE}[dice];
    }

    private int pick(int below) {
        seed ^= seed << 13;
        seed ^= seed >>> 7;
        seed ^= seed << 17;
        return (int) Math.floorMod(seed >>> 11, (long) below);
    }
}
