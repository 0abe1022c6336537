/** A Hourbook that counts its calls, as what it answers past the 512th is free and no ground for a test. */
final class Real extends Book {
    private static final int MOST_CALLS = 512;

    private final Hourbook h = new Hourbook();
    private int calls;

    int calls() {
        return calls;
    }

    private Hourbook counted() {
        calls++;
        if (calls > MOST_CALLS) {
            throw new AssertionError("a test makes more than 512 calls");
        }
        return h;
    }

    @Override
    int project(int budget, boolean isHard) {
        return counted().project(budget, isHard);
    }

    @Override
    int setBudget(int project, int budget, boolean isHard) {
        return counted().setBudget(project, budget, isHard);
    }

    @Override
    int setStep(int project, int step, int way) {
        return counted().setStep(project, step, way);
    }

    @Override
    int setTerms(int project, int discount, int tax) {
        return counted().setTerms(project, discount, tax);
    }

    @Override
    int rule(boolean isFix, int n) {
        return counted().rule(isFix, n);
    }

    @Override
    int aim(int rule, int person, int project, int kind) {
        return counted().aim(rule, person, project, kind);
    }

    @Override
    int time(int rule, int firstDay, int lastDay, int which, int from, int to) {
        return counted().time(rule, firstDay, lastDay, which, from, to);
    }

    @Override
    int dropRule(int rule) {
        return counted().dropRule(rule);
    }

    @Override
    int entry(int person, int project, int kind, int day, int from, int to) {
        return counted().entry(person, project, kind, day, from, to);
    }

    @Override
    int change(int entry, int from, int to) {
        return counted().change(entry, from, to);
    }

    @Override
    int take(int entry) {
        return counted().take(entry);
    }

    @Override
    int many(int what) {
        return counted().many(what);
    }

    @Override
    int ofEntry(int entry, int what) {
        return counted().ofEntry(entry, what);
    }

    @Override
    int rate(int entry, int minute) {
        return counted().rate(entry, minute);
    }

    @Override
    int why(int entry, int minute) {
        return counted().why(entry, minute);
    }

    @Override
    int ofProject(int project, int what) {
        return counted().ofProject(project, what);
    }

    @Override
    int worked(int person, int firstDay, int lastDay) {
        return counted().worked(person, firstDay, lastDay);
    }

    @Override
    int bill(int project, int lastDay) {
        return counted().bill(project, lastDay);
    }

    @Override
    int takeBack(int bill) {
        return counted().takeBack(bill);
    }

    @Override
    int ofBill(int bill, int what) {
        return counted().ofBill(bill, what);
    }

    @Override
    int line(int bill, int line, int what) {
        return counted().line(bill, line, what);
    }

    @Override
    int wouldBill(int project, int lastDay) {
        return counted().wouldBill(project, lastDay);
    }

    @Override
    int without(int rule) {
        return counted().without(rule);
    }

    @Override
    int amountsWith(int rule, int n) {
        return counted().amountsWith(rule, n);
    }

    @Override
    int overOn(int project) {
        return counted().overOn(project);
    }

    @Override
    double meanRate() {
        return counted().meanRate();
    }

    @Override
    long digest() {
        return counted().digest();
    }
}
