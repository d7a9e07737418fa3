/** Promises 20 to 29: votes, power, seats to be lent, parties that agree. */
public final class AssemblyTest {
    private static final String SHOP = "ware a plain whole 4 done 0;ware b plain whole 4 done 0;"
        + "ware c plain whole 4 done 0;ware d plain whole 4 done 0;"
        + "party p seats 10;party q seats 6;party r seats 4;party s seats 0;"
        + "for p a;for p b;for q a;for r c;for s d;for q c;";

    public static void main(String[] args) {
        ways();
        pivotAndPower();
        coreAndLean();
        shift();
        rivalAndFriends();
        blocAndOrphans();
        Check.end();
    }

    private static HalfShop seats(int... seats) {
        StringBuilder s = new StringBuilder();
        for (int i = 0; i < seats.length; i++) {
            s.append("party ").append((char) ('p' + i)).append(" seats ").append(seats[i]).append(";");
        }
        return Check.shop(s.toString());
    }

    private static void ways() {
        HalfShop x = seats(10, 6, 4, 0);
        int[][] due = {{0, 2}, {4, 2}, {6, 2}, {10, 4}, {14, 2}, {16, 2}, {20, 2}, {5, 0}, {21, 0}, {200, 0}};
        for (int[] d : due) {
            Check.due("ways " + d[0], x.ways(d[0]), d[1]);
        }
        Check.due("ways -1", x.ways(-1), -1);
        Check.due("ways 201", x.ways(201), -1);
        HalfShop all = seats(40, 40, 40, 40, 40);
        Check.due("ways 200", all.ways(200), 1);
        Check.due("ways 80", all.ways(80), 10);
        Check.due("lent", all.lend(0, 1, 20), true);
        Check.due("ways 80", all.ways(80), 1 + 3);
        Check.due("ways 60", all.ways(60), 1 + 3);
    }

    private static void pivotAndPower() {
        HalfShop x = seats(10, 6, 4, 0);
        int[] pivots = {6, 2, 2, 0};
        int[] powers = {600000, 200000, 200000, 0};
        for (int p = 0; p < 4; p++) {
            Check.due("pivot " + p, x.pivot(p), pivots[p]);
            Check.due("power " + p, x.power(p), powers[p]);
        }
        for (int other : new int[] {-1, 4, 5, Integer.MAX_VALUE}) {
            Check.due("pivot others", x.pivot(other), -1);
            Check.due("power others", x.power(other), -1);
        }
        HalfShop y = seats(3, 2, 2);
        Check.due("pivot", y.pivot(0), 2);
        Check.due("power is cut", y.power(0), 333333);
        HalfShop none = seats(0, 0);
        Check.due("pivot", none.pivot(0), 0);
        Check.due("no power", none.power(0), -1);
        HalfShop one = seats(1);
        Check.due("pivot", one.pivot(0), 1);
        Check.due("all power", one.power(0), 1000000);
    }

    private static void coreAndLean() {
        HalfShop x = seats(10, 6, 4, 0);
        Check.due("core", x.core(), 1);
        Check.due("lean", x.lean(), 3);
        HalfShop y = seats(3, 2, 2);
        Check.due("core", y.core(), 0);
        Check.due("lean, the least set", y.lean(), 3);
        HalfShop z = seats(0, 1, 9, 5, 2);
        Check.due("core", z.core(), 4);
        Check.due("lean", z.lean(), 4);
        HalfShop two = seats(5, 0, 5);
        Check.due("core", two.core(), 5);
        Check.due("lean", two.lean(), 5);
        HalfShop none = seats(0, 0);
        Check.due("core", none.core(), 0);
        Check.due("lean", none.lean(), -1);
    }

    private static void shift() {
        HalfShop x = Check.shop(SHOP);
        dueShift(x, 0, 6, 0, 2);
        dueShift(x, 1, 0, -1, -1);
        dueShift(x, 2, 0, -1, -1);
        dueShift(x, 3, 10, 0, 3);
        x.lend(1, 3, 6);
        dueShift(x, 3, 4, 0, 3);
        dueShift(x, 2, 6, 0, 1);
        for (int[] w : new int[][] {{-1, 0}, {4, 0}, {0, -1}, {0, 3}}) {
            Check.due("shift others", x.shift(w[0], w[1]), -2);
        }
        HalfShop odd = Check.shop("ware a plain whole 4 done 0;party p seats 4;party q seats 5;for p a;");
        dueShift(odd, 0, -2, -2, -2);
        HalfShop none = Check.shop("ware a plain whole 4 done 0;party p seats 0;party q seats 0;for p a;");
        dueShift(none, 0, -2, -2, -2);
        HalfShop far = Check.shop("ware a plain whole 4 done 0;party p seats 40;party q seats 0;party r seats 2;"
            + "party s seats 40;for p a;for s a;for q a;");
        dueShift(far, 0, -2, -2, -2);
        HalfShop twenty = Check.shop("ware a plain whole 4 done 0;party p seats 40;party q seats 0;for p a;");
        dueShift(twenty, 0, 20, 0, 1);
        HalfShop full = Check.shop("ware a plain whole 4 done 0;party p seats 40;party q seats 40;party r seats 40;"
            + "party s seats 40;party t seats 40;for p a;for r a;for s a;for t a;");
        dueShift(full, 0, -2, -2, -2);
        full.lend(0, 1, 20);
        full.lend(2, 1, 20);
        dueShift(full, 0, -2, -2, -2);
        full.lend(3, 1, 19);
        Check.due("99", full.party(1, 0), 99);
        dueShift(full, 0, -2, -2, -2);
    }

    private static void dueShift(HalfShop x, int ware, int many, int from, int to) {
        Check.due("shift " + ware + " many", x.shift(ware, 0), many);
        Check.due("shift " + ware + " by", x.shift(ware, 1), from);
        Check.due("shift " + ware + " to", x.shift(ware, 2), to);
    }

    private static void rivalAndFriends() {
        HalfShop x = Check.shop(SHOP);
        // p: a b, q: a c, r: c, s: d.
        Check.due("rival of p", x.rival(0), 2);
        Check.due("rival of q", x.rival(1), 3);
        Check.due("rival of r", x.rival(2), 0);
        Check.due("rival of s", x.rival(3), 0);
        Check.due("rival others", x.rival(-1), -1);
        Check.due("rival others", x.rival(4), -1);
        Check.due("friends", x.friends(), 0);
        HalfShop one = seats(3);
        Check.due("no other one", one.rival(0), -1);
        Check.due("friends", one.friends(), 0);
        HalfShop alike = seats(3, 0, 2);
        Check.due("the first", alike.rival(0), 1);
        Check.due("the first", alike.rival(1), 0);
        Check.due("friends", alike.friends(), 3);
        HalfShop some = Check.shop("ware a plain whole 4 done 0;ware b plain whole 4 done 0;party p seats 1;"
            + "party q seats 1;party r seats 1;party s seats 1;for p a;for r a;for q b;");
        Check.due("friends", some.friends(), 1);
        Check.due("rival of q", some.rival(1), 0);
        Check.due("rival of p", some.rival(0), 1);
    }

    private static void blocAndOrphans() {
        HalfShop x = Check.shop(SHOP);
        int[] blocs = {3, 1, 6, 8};
        for (int ware = 0; ware < 4; ware++) {
            Check.due("bloc " + ware, x.bloc(ware), blocs[ware]);
        }
        Check.due("bloc others", x.bloc(-1), -1);
        Check.due("bloc others", x.bloc(4), -1);
        Check.due("orphans", x.orphans(), 8);
        x.lend(0, 3, 10);
        Check.due("orphans", x.orphans(), 2);
        Check.due("the bloc stays", x.bloc(1), 1);
        Check.due("orphans without parties", Check.shop("ware a plain whole 4 done 0;").orphans(), 1);
    }
}
