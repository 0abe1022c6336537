import java.util.ArrayList;
import java.util.List;

/**
 * Each question as the first one that is asked behind each change: no answer hangs on what was asked ahead of it, and
 * no question changes what is asked behind it.
 */
public final class AskedFirstTest {
    private static final Check C = new Check("AskedFirstTest");

    private record Call(String name, Do what) {
        String outcome(Book b) {
            return Check.outcome(() -> what.on(b));
        }
    }

    interface Do {
        Object on(Book b);
    }

    public static void main(String[] args) {
        List<Call> questions = questions();
        for (Call change : changes()) {
            for (Call question : questions) {
                Real h = new Real();
                Model model = new Model();
                Sample.fill(h);
                Sample.fill(model);
                C.is(change.name, change.outcome(h), change.outcome(model));
                String told = question.name + " behind " + change.name;
                C.is(told, question.outcome(h), question.outcome(model));
                C.is(told + ", once more", question.outcome(h), question.outcome(model));
            }
        }
        List<String> untouched = untouched();
        for (Call question : questions) {
            Real h = new Real();
            Sample.fill(h);
            question.outcome(h);
            C.is(question.name + " changes nothing", Sample.view(h), untouched);
        }
        C.end();
    }

    private static List<String> untouched() {
        Real h = new Real();
        Sample.fill(h);
        return Sample.view(h);
    }

    private static List<Call> changes() {
        return List.of(
            new Call("nothing", b -> 0),
            new Call("project", b -> b.project(777, true)),
            new Call("setBudget", b -> b.setBudget(0, 19000, true)),
            new Call("setBudget, no more hard", b -> b.setBudget(0, 20000, false)),
            new Call("setBudget, hard", b -> b.setBudget(1, 9000, true)),
            new Call("setBudget, none", b -> b.setBudget(1, 0, true)),
            new Call("setStep", b -> b.setStep(0, 30, 1)),
            new Call("setTerms", b -> b.setTerms(0, 50, 3)),
            new Call("rule", b -> b.rule(false, 25)),
            new Call("aim", b -> b.aim(0, 4, 0, -1)),
            new Call("time", b -> b.time(1, 4, 12, 0, 30, 1420)),
            new Call("dropRule", b -> b.dropRule(0)),
            new Call("dropRule, the last", b -> b.dropRule(3)),
            new Call("entry", b -> b.entry(5, 0, 3, 0, 0, 77)),
            new Call("change", b -> b.change(8, 500, 533)),
            new Call("change of a billed one", b -> b.change(2, 500, 533)),
            new Call("take", b -> b.take(4)),
            new Call("bill", b -> b.bill(0, 8)),
            new Call("bill of a correction", b -> b.bill(1, 0)),
            new Call("takeBack", b -> b.takeBack(2)),
            new Call("takeBack of the other project", b -> b.takeBack(1)));
    }

    private static List<Call> questions() {
        List<Call> all = new ArrayList<>();
        all.add(new Call("digest", b -> b.digest()));
        all.add(new Call("meanRate", b -> b.meanRate()));
        for (int k = 0; k <= 3; k++) {
            int what = k;
            all.add(new Call("many " + k, b -> b.many(what)));
            all.add(new Call("without " + k, b -> b.without(what)));
            all.add(new Call("amountsWith " + k, b -> b.amountsWith(what, 33)));
        }
        for (int k = 0; k < 3 * Sample.PROJECTS; k++) {
            int project = k % 3;
            int day = k / 3 * 6;
            all.add(new Call("wouldBill " + project + " up to " + day, b -> b.wouldBill(project, day)));
            all.add(new Call("overOn " + project, b -> b.overOn(project)));
            all.add(new Call("worked by " + k % 6, b -> b.worked(project, 1, day)));
        }
        for (int k = 0; k < 6 * Sample.PROJECTS; k++) {
            int project = k / 6;
            int what = k % 6;
            all.add(new Call("ofProject " + project + ", " + what, b -> b.ofProject(project, what)));
        }
        for (int k = 0; k < 5 * Sample.ENTRIES; k++) {
            int entry = k / 5;
            int what = 6 + k % 5;
            all.add(new Call("ofEntry " + entry + ", " + what, b -> b.ofEntry(entry, what)));
        }
        for (int k = 0; k < Sample.ENTRIES; k++) {
            int entry = k;
            all.add(new Call("rate " + k, b -> b.rate(entry, 570)));
            all.add(new Call("why " + k, b -> b.why(entry, 570)));
        }
        for (int k = 0; k < 8 * Sample.BILLS; k++) {
            int bill = k / 8;
            int what = k % 8;
            all.add(new Call("ofBill " + bill + ", " + what, b -> b.ofBill(bill, what)));
            all.add(new Call("line " + bill + ", " + k % 2, b -> b.line(bill, what % 2, what / 2)));
        }
        return all;
    }
}
