import java.lang.management.ManagementFactory;

/** The dearest calls, 512 on one object: they end soon and make next to nothing. */
public final class LimitTest {
    public static void main(String[] args) {
        HalfShop x = new HalfShop();
        StringBuilder s = new StringBuilder();
        for (char c = 'a'; c <= 'f'; c++) {
            s.append("ware ").append(c).append(" plain whole 60 done 0;");
        }
        for (char c = 'p'; c <= 't'; c++) {
            s.append("party ").append(c).append(" seats 40;for ").append(c).append(" a;");
        }
        s.append("works 0*(");
        while (s.length() < 990) {
            s.append("1+");
        }
        s.append("1)+1;");
        Check.due("feed", Check.put(x, s.toString()), s.length());
        Check.due("republic", x.republic(), 0);
        x.say(3, false);
        long before = made();
        for (int i = 0; i < 45; i++) {
            Check.due("ask", x.ask(), 16);
            Check.due("wholes", x.wholes(0), 53);
            Check.due("terms", x.terms(i, 99, 0) >= 0, true);
            Check.due("fines", x.fines(60), 6 * 30 * 2);
            Check.due("chance", x.chance(0, 6, 5), 0);
            Check.due("joined", x.joined(0, 1), 30);
            Check.due("caught", x.caught(0), 31);
            Check.due("shift", x.shift(0, 0), -2);
            Check.due("most", x.most(200, 0), 6);
        }
        Check.due("the calls make next to nothing", made() - before < 2000000, true);
        depthOfStack();
        lastCall();
        Check.end();
    }

    /** An object is used for 512 calls: the last one is answered as any. */
    private static void lastCall() {
        HalfShop x = new HalfShop();
        String text = "ware a bridge whole 2 done 1;fine 9;works (date<500)*9;";
        Check.put(x, text);
        Check.due("republic", x.republic(), 0);
        // Put asks count(12) once, then feeds by 24 signs.
        int calls = 1 + (text.length() + 23) / 24 + 1;
        for (; calls < 509; calls++) {
            int week = calls - 5;
            Check.due("week " + week, x.week(), week < 500 ? 18 * 9 : 0);
        }
        Check.due("the 510th call", x.count(3), 504);
        Check.due("the 511th call", x.count(4), 500 * 18 * 9);
        Check.due("the last call", x.count(11), 16);
    }

    /** Every depth keeps as many operands waiting as it can. */
    private static void depthOfStack() {
        for (int last = 0; last <= 1; last++) {
            HalfShop x = Check.shop("ware a plain whole 20 done 0;"
                + "works 0 or 0=0+1*(0 or 0=0+1*(0 or 0=0+1*(0 or 0=0+1*(0 or 0=0+1*" + last + "))));");
            x.week();
            Check.due("deep " + last, x.ware(0, 2), 1 - last);
        }
    }

    private static long made() {
        com.sun.management.ThreadMXBean bean = (com.sun.management.ThreadMXBean) ManagementFactory.getThreadMXBean();
        return bean.getThreadAllocatedBytes(Thread.currentThread().getId());
    }
}
