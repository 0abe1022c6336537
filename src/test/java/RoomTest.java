import java.lang.management.ManagementFactory;

/** Whatever the arguments, and also past 512 calls, only documented exceptions get out; and a full run stays small. */
public final class RoomTest {
    private static final int CALLS = 60000;
    /** No more objects and elements than these bytes can be made of them: there is room for 7.3 million elements. */
    private static final int MOST_BYTES = 7300000;
    private static final Check CHECK = new Check("RoomTest");
    private static final int[] ODD = {Integer.MIN_VALUE, Integer.MIN_VALUE + 1, -1000, -2, -1, 6, 10, 20, 60, 61, 364,
        365, 1439, 1440, 1441, 50000, 10000000, 10000001, Integer.MAX_VALUE - 1, Integer.MAX_VALUE};

    private static long seed = 2463534242L;

    public static void main(String[] args) {
        for (int run = 0; run < 8; run++) {
            anyCalls(run);
        }
        room();
        CHECK.end();
    }

    private static void anyCalls(int run) {
        Hourbook h = new Hourbook();
        for (int call = 0; call < CALLS; call++) {
            int which = pick(27);
            String outcome = Check.outcome(() -> anyCall(h, which, 4 + 2 * run));
            boolean isWrong = outcome.startsWith("throws.") && !isDocumented(which, outcome.substring(17));
            if (isWrong || outcome.equals("NaN")) {
                CHECK.is("run " + run + ", call " + call + ", method " + which, outcome, "what is documented");
                return;
            }
        }
        CHECK.is("run " + run + " came to its end", true, true);
    }

    /** The simple names come behind throws.java.lang., which is 17 signs long. */
    private static boolean isDocumented(int which, String thrown) {
        if (thrown.equals("IndexOutOfBoundsException")) {
            return which != 0 && which != 4 && which != 11 && which != 16 && which < 25;
        }
        if (thrown.equals("IllegalArgumentException")) {
            return which != 7 && which != 10 && which != 18 && which != 22 && which < 24;
        }
        return thrown.equals("IllegalStateException") && (which == 0 || which == 4 || which == 8 || which == 9
                || which == 10 || which == 17 || which == 18);
    }

    private static Object anyCall(Hourbook h, int which, int most) {
        boolean is = pick(2) == 0;
        int a = number(most);
        int b = number(most);
        int c = number(most);
        int d = number(most);
        int from = number(1440);
        int to = pick(3) == 0 ? number(1441) : from + 1 + pick(100);
        switch (which) {
            case 0: return h.project(number(30000), is);
            case 1: return h.setBudget(a, number(30000), is);
            case 2: return h.setStep(a, new int[] {1, 5, 6, 10, 15, 30, number(31)}[pick(7)], b);
            case 3: return h.setTerms(a, number(101), number(101));
            case 4: return h.rule(is, number(is ? 50001 : 201));
            case 5: return h.aim(a, b, c, d);
            case 6: return h.time(a, number(365), number(365), c, from, to);
            case 7: return pick(4) == 0 ? h.dropRule(a) : h.without(a);
            case 8: return h.entry(a, b, c, d, from, to);
            case 9: return h.change(number(60), from, to);
            case 10: return pick(30) == 0 ? h.take(number(60)) : h.many(0);
            case 11: return h.many(a);
            case 12: return h.ofEntry(number(60), a);
            case 13: return h.rate(number(60), from);
            case 14: return h.why(number(60), from);
            case 15: return h.ofProject(a, b);
            case 16: return h.worked(a, number(365), number(365));
            case 17: return pick(50) == 0 ? h.bill(a, number(365)) : h.many(3);
            case 18: return pick(50) == 0 ? h.takeBack(number(20)) : h.many(3);
            case 19: return h.ofBill(number(20), a);
            case 20: return h.line(number(20), a, b);
            case 21: return h.wouldBill(a, number(365));
            case 22: return h.without(a);
            case 23: return h.amountsWith(a, is ? number(50001) : number(201));
            case 24: return h.overOn(a);
            case 25: return h.meanRate();
            default: return pick(50) == 0 ? h.digest() : h.many(2);
        }
    }

    private static void room() {
        com.sun.management.ThreadMXBean threads =
                (com.sun.management.ThreadMXBean) ManagementFactory.getThreadMXBean();
        if (!threads.isThreadAllocatedMemorySupported()) {
            return;
        }
        long thread = Thread.currentThread().getId();
        long before = threads.getThreadAllocatedBytes(thread);
        long sum = fullRun();
        long bytes = threads.getThreadAllocatedBytes(thread) - before;
        CHECK.is("the full run answers", sum != 0, true);
        CHECK.is("a full run of 512 calls takes " + bytes + " bytes, which are few", bytes < MOST_BYTES, true);
    }

    private static long fullRun() {
        Hourbook h = new Hourbook();
        int calls = 0;
        for (int k = 0; k < 6; k++, calls++) {
            h.project(k * 100000, k % 2 == 0);
        }
        for (int k = 0; k < 10; k++, calls += 2) {
            h.rule(k % 3 == 0, k * 10);
            h.time(k, k, 300 + k, k % 3, 60 * k, 100 * k + 200);
        }
        for (int k = 0; k < 60; k++, calls++) {
            h.entry(k % 6, k / 3 % 6, k % 4, k / 6, 60 * (k % 20), 60 * (k % 20) + 50);
        }
        for (int k = 0; k < 20; k++, calls += 2) {
            h.bill(k % 6, 364);
            int next = 3 * ((k + 1) % 6);
            h.change(next, 60 * (next % 20), 60 * (next % 20) + 20 + k);
        }
        for (int k = 0; k < 100; k++, calls += 2) {
            h.dropRule(k % 10);
            h.rule(k % 2 == 0, k);
        }
        long sum = 0;
        for (; calls < 512; calls++) {
            sum += h.digest();
        }
        return sum;
    }

    private static int number(int below) {
        return pick(12) == 0 ? ODD[pick(ODD.length)] : pick(below);
    }

    private static int pick(int below) {
        seed ^= seed << 13;
        seed ^= seed >>> 7;
        seed ^= seed << 17;
        return (int) Math.floorMod(seed >>> 11, (long) below);
    }
}
