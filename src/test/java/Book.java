/** The calls of the face, so that the same run of calls goes to Hourbook and to the model. */
abstract class Book {
    abstract int project(int budget, boolean isHard);
    abstract int setBudget(int project, int budget, boolean isHard);
    abstract int setStep(int project, int step, int way);
    abstract int setTerms(int project, int discount, int tax);
    abstract int rule(boolean isFix, int n);
    abstract int aim(int rule, int person, int project, int kind);
    abstract int time(int rule, int firstDay, int lastDay, int which, int from, int to);
    abstract int dropRule(int rule);
    abstract int entry(int person, int project, int kind, int day, int from, int to);
    abstract int change(int entry, int from, int to);
    abstract int take(int entry);
    abstract int many(int what);
    abstract int ofEntry(int entry, int what);
    abstract int rate(int entry, int minute);
    abstract int why(int entry, int minute);
    abstract int ofProject(int project, int what);
    abstract int worked(int person, int firstDay, int lastDay);
    abstract int bill(int project, int lastDay);
    abstract int takeBack(int bill);
    abstract int ofBill(int bill, int what);
    abstract int line(int bill, int line, int what);
    abstract int wouldBill(int project, int lastDay);
    abstract int without(int rule);
    abstract int amountsWith(int rule, int n);
    abstract int overOn(int project);
    abstract double meanRate();
    abstract long digest();
}
