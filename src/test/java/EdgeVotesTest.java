/** Promises 20 to 29 at their edges: sets of parties, just half and one more, seats to be lent, who agrees. */
public final class EdgeVotesTest {
    private static final int[] FAR = {-1, 5, 6, 31, 32, Integer.MIN_VALUE, Integer.MAX_VALUE};

    public static void main(String[] args) {
        waysOfSeats();
        waysLimits();
        pivotJustHalf();
        pivotWithoutSeats();
        powerIsCut();
        powerOfNobody();
        othersThanParties();
        coreOfMajorities();
        leanOfEqualOnes();
        shiftNobodyNeed();
        shiftOneToTwenty();
        shiftOfEqualOnes();
        shiftWhoHasThem();
        shiftNinetyNine();
        shiftByNone();
        shiftOthers();
        rivalOfEqualOnes();
        rivalOfNobody();
        friendsPairs();
        blocsAndOrphans();
        fewerPartiesThanBefore();
        Check.end();
    }

    private static HalfShop seats(int... seats) {
        StringBuilder s = new StringBuilder();
        for (int i = 0; i < seats.length; i++) {
            s.append("party ").append((char) ('p' + i)).append(" seats ").append(seats[i]).append(";");
        }
        return Check.shop(s.toString());
    }

    // "WAYS of so many seats (0 to 200): sets of PARTIES that have just so many, together."
    private static void waysOfSeats() {
        HalfShop x = seats(1, 2, 4, 8, 16);
        for (int n = 0; n <= 31; n++) {
            Check.due("ways(" + n + ")", x.ways(n), 1);
        }
        Check.due("ways(32)", x.ways(32), 0);
        HalfShop y = seats(5, 5, 5, 5, 5);
        int[] ways = {1, 5, 10, 10, 5, 1};
        for (int i = 0; i <= 5; i++) {
            Check.due("ways(" + 5 * i + ")", y.ways(5 * i), ways[i]);
            Check.due("ways(" + (5 * i + 1) + ")", y.ways(5 * i + 1), 0);
        }
        HalfShop none = seats(0, 0, 0, 0, 0);
        Check.due("every set of nothing", none.ways(0), 32);
        Check.due("ways(1)", none.ways(1), 0);
    }

    private static void waysLimits() {
        HalfShop x = seats(40, 40, 40, 40, 40);
        Check.due("ways(200)", x.ways(200), 1);
        Check.due("ways(199)", x.ways(199), 0);
        Check.due("ways(0)", x.ways(0), 1);
        for (int other : new int[] {-1, 201, Integer.MIN_VALUE, Integer.MAX_VALUE}) {
            Check.due("ways(" + other + ")", x.ways(other), -1);
        }
        HalfShop none = new HalfShop();
        Check.due("the empty set", none.ways(0), 1);
        Check.due("without parties", none.ways(200), 0);
        Check.due("without parties", none.ways(201), -1);
    }

    // "sets of others that are no more than half of all seats, and with a PARTY are more"
    private static void pivotJustHalf() {
        HalfShop even = seats(5, 5);
        Check.due("just half is no more than half", even.pivot(0), 1);
        Check.due("just half is no more than half", even.pivot(1), 1);
        HalfShop more = seats(6, 5);
        Check.due("alone, and with the other", more.pivot(0), 2);
        Check.due("never", more.pivot(1), 0);
        HalfShop three = seats(4, 2, 2);
        Check.due("with one, the other, both", three.pivot(0), 3);
        Check.due("with the first", three.pivot(1), 1);
        Check.due("with the first", three.pivot(2), 1);
        HalfShop all = seats(40, 40, 40, 40, 40);
        for (int i = 0; i < 5; i++) {
            Check.due("two of four", all.pivot(i), 6);
            Check.due("a fifth", all.power(i), 200000);
        }
    }

    private static void pivotWithoutSeats() {
        HalfShop x = seats(3, 0, 0);
        Check.due("alone, with either, with both", x.pivot(0), 4);
        Check.due("none", x.pivot(1), 0);
        Check.due("all power", x.power(0), 1000000);
        Check.due("no power", x.power(2), 0);
        x.lend(0, 1, 3);
        Check.due("as lent", x.pivot(0), 0);
        Check.due("as lent", x.pivot(1), 4);
        HalfShop none = seats(0, 0);
        Check.due("none", none.pivot(0), 0);
    }

    // "POWER: of all such sets of all PARTIES, in millionths, cut, those of one."
    private static void powerIsCut() {
        HalfShop x = seats(1, 1, 1);
        for (int i = 0; i < 3; i++) {
            Check.due("a third", x.power(i), 333333);
        }
        HalfShop y = seats(3, 2, 1, 1);
        // Of 7, more than 3: by 3 it is turned with 1, 1, 2, 1 1, 2 1, 2 1; by the others as told.
        int[] pivots = {6, 2, 2, 2};
        for (int i = 0; i < 4; i++) {
            Check.due("pivot(" + i + ")", y.pivot(i), pivots[i]);
            Check.due("power(" + i + ")", y.power(i), pivots[i] * 1000000 / 12);
        }
        HalfShop seven = seats(2, 1, 1, 1);
        // Of 5, more than 2: 2 by each one, each two; 1 by 2, and by both others.
        Check.due("pivot", seven.pivot(0), 6);
        Check.due("power", seven.power(0), 500000);
        Check.due("a sixth, cut", seven.power(1), 166666);
    }

    // "NONE: others, there is no such set of any"
    private static void powerOfNobody() {
        Check.due("no seats", seats(0).power(0), -1);
        Check.due("no seats", seats(0, 0, 0, 0, 0).power(4), -1);
        Check.due("one party", seats(1).power(0), 1000000);
        Check.due("one seat", seats(1, 0).power(0), 1000000);
        Check.due("one seat", seats(1, 0).power(1), 0);
    }

    private static void othersThanParties() {
        HalfShop x = seats(1, 2, 3, 4, 5);
        for (int far : FAR) {
            Check.due("pivot(" + far + ")", x.pivot(far), -1);
            Check.due("power(" + far + ")", x.power(far), -1);
            Check.due("rival(" + far + ")", x.rival(far), -1);
        }
        HalfShop two = seats(1, 2);
        Check.due("pivot(2)", two.pivot(2), -1);
        Check.due("power(2)", two.power(2), -1);
        Check.due("rival(2)", two.rival(2), -1);
        Check.due("pivot(1)", two.pivot(1), 2);
    }

    // "CORE: PARTIES that are in every set of more than half (bits; none, if there is no such set)."
    private static void coreOfMajorities() {
        Check.due("no parties", new HalfShop().core(), 0);
        Check.due("no seats", seats(0, 0, 0).core(), 0);
        Check.due("the only one", seats(1).core(), 1);
        Check.due("both of two halves", seats(5, 5).core(), 3);
        Check.due("one beyond half", seats(6, 5).core(), 1);
        Check.due("just half, in every one", seats(2, 1, 1).core(), 1);
        Check.due("one below half", seats(2, 1, 1, 1).core(), 0);
        Check.due("the last one", seats(0, 0, 0, 0, 9).core(), 16);
        Check.due("none of five", seats(40, 40, 40, 40, 40).core(), 0);
    }

    // "LEAN: the fewest PARTIES of more than half, together; of equal ones the least set (bits)."; "NONE: none is"
    private static void leanOfEqualOnes() {
        Check.due("no parties", new HalfShop().lean(), -1);
        Check.due("no seats", seats(0, 0, 0).lean(), -1);
        Check.due("the only one", seats(1).lean(), 1);
        Check.due("two halves", seats(5, 5).lean(), 3);
        Check.due("just half is not enough", seats(5, 0, 5).lean(), 5);
        Check.due("one beyond half", seats(5, 6).lean(), 2);
        Check.due("the least of equal ones", seats(1, 1, 1).lean(), 3);
        Check.due("the least of equal ones", seats(1, 3, 2, 3, 1).lean(), 10);
        Check.due("the last one", seats(0, 0, 0, 0, 9).lean(), 16);
        Check.due("three of five", seats(40, 40, 40, 40, 40).lean(), 7);
        Check.due("three of five", seats(0, 2, 2, 2, 2).lean(), 14);
    }

    private static HalfShop forA(String who, int... seats) {
        StringBuilder s = new StringBuilder("ware a plain whole 4 done 0;");
        for (int i = 0; i < seats.length; i++) {
            s.append("party ").append((char) ('p' + i)).append(" seats ").append(seats[i]).append(";");
        }
        for (int i = 0; i < who.length(); i++) {
            s.append("for ").append(who.charAt(i)).append(" a;");
        }
        return Check.shop(s.toString());
    }

    private static void dueShift(String call, HalfShop x, int many, int from, int to) {
        Check.due(call + ": how many", x.shift(0, 0), many);
        Check.due(call + ": by whom", x.shift(0, 1), from);
        Check.due(call + ": to whom", x.shift(0, 2), to);
        Check.due(call + ": nothing is lent", x.count(11), 0);
    }

    // "(0: it is)"; "(NONE: nobody need)"
    private static void shiftNobodyNeed() {
        dueShift("halved", forA("p", 5, 5), 0, -1, -1);
        dueShift("halved by two", forA("pq", 2, 3, 5), 0, -1, -1);
    }

    // "the fewest seats (1 to 20) to be LENT, once, so that it is HALVED"
    private static void shiftOneToTwenty() {
        dueShift("one", forA("p", 6, 4), 1, 0, 1);
        dueShift("one the other way", forA("p", 4, 6), 1, 1, 0);
        dueShift("twenty", forA("p", 40, 0), 20, 0, 1);
        dueShift("twenty the other way", forA("q", 40, 0), 20, 0, 1);
        dueShift("twenty of 42", forA("pr", 40, 1, 1), 20, 0, 1);
        dueShift("21", forA("pr", 40, 0, 2), -2, -2, -2);
        dueShift("19", forA("pr", 38, 1, 1), 19, 0, 1);
    }

    // "of equal ones the first by whom, then to whom"
    private static void shiftOfEqualOnes() {
        dueShift("by the first", forA("pq", 5, 5, 2, 2), 3, 0, 2);
        dueShift("to the first", forA("p", 10, 2, 2), 3, 0, 1);
        dueShift("to the first of those for it", forA("rs", 2, 10, 0, 0), 6, 1, 2);
        dueShift("by the second of those for it", forA("st", 2, 2, 0, 1, 9), 3, 4, 0);
    }

    private static void shiftWhoHasThem() {
        dueShift("the first has not so many", forA("pr", 3, 1, 30), 16, 2, 1);
        dueShift("it has just so many", forA("pr", 10, 1, 11), 10, 0, 1);
        dueShift("it has one too few", forA("pr", 9, 1, 12), 10, 2, 1);
        dueShift("no one has so many", forA("pqs", 9, 9, 0, 9), -2, -2, -2);
    }

    // "(99 at most there)"
    private static void shiftNinetyNine() {
        HalfShop x = forA("prst", 40, 40, 40, 40, 38);
        x.lend(0, 1, 20);
        x.lend(2, 1, 20);
        Check.due("all", x.count(7), 198);
        Check.due("19 to 99", x.shift(0, 0), 19);
        Check.due("by", x.shift(0, 1), 0);
        Check.due("to", x.shift(0, 2), 1);
        HalfShop y = forA("prst", 40, 40, 40, 40, 40);
        y.lend(0, 1, 20);
        y.lend(2, 1, 20);
        for (int what = 0; what <= 2; what++) {
            Check.due("20 would be 100", y.shift(0, what), -2);
        }
        HalfShop z = forA("pst", 40, 40, 40, 40, 40);
        z.lend(2, 1, 20);
        z.lend(2, 1, 20);
        z.lend(0, 1, 10);
        Check.due("10 would be 100 there, not with the next", z.shift(0, 0), 10);
        Check.due("by", z.shift(0, 1), 0);
        Check.due("to", z.shift(0, 2), 2);
    }

    // "-2: others, by none"
    private static void shiftByNone() {
        dueShift("an odd number of seats", forA("p", 4, 5), -2, -2, -2);
        dueShift("one seat", forA("p", 1), -2, -2, -2);
        dueShift("one party", forA("p", 4), -2, -2, -2);
        dueShift("no seats", forA("p", 0, 0), -2, -2, -2);
        dueShift("all are for it", forA("pq", 4, 4), -2, -2, -2);
        dueShift("nobody is for it", forA("", 4, 4), -2, -2, -2);
        dueShift("no parties", forA(""), -2, -2, -2);
    }

    private static void shiftOthers() {
        HalfShop x = forA("p", 6, 4);
        for (int what : new int[] {-1, 3, Integer.MIN_VALUE, Integer.MAX_VALUE}) {
            Check.due("shift(0, " + what + ")", x.shift(0, what), -2);
        }
        for (int ware : new int[] {-1, 1, 6, Integer.MIN_VALUE, Integer.MAX_VALUE}) {
            for (int what = 0; what <= 2; what++) {
                Check.due("shift(" + ware + ", " + what + ")", x.shift(ware, what), -2);
            }
        }
        HalfShop halved = forA("p", 5, 5);
        Check.due("halved, what 3", halved.shift(0, 3), -2);
        Check.due("halved, what -1", halved.shift(0, -1), -2);
    }

    private static HalfShop agreeing(String... causes) {
        StringBuilder s = new StringBuilder("ware a plain whole 4 done 0;ware b plain whole 4 done 0;ware c plain whole 4 done 0;");
        for (int i = 0; i < causes.length; i++) {
            s.append("party ").append((char) ('p' + i)).append(" seats 0;");
            for (int j = 0; j < causes[i].length(); j++) {
                s.append("for ").append((char) ('p' + i)).append(' ').append(causes[i].charAt(j)).append(';');
            }
        }
        return Check.shop(s.toString());
    }

    // "the one that agrees least with it: by how many WARES both are for, or both are not; of equal ones the first"
    private static void rivalOfEqualOnes() {
        HalfShop x = agreeing("a", "abc", "", "bc", "bc");
        int[] rivals = {3, 2, 1, 0, 0};
        for (int i = 0; i < 5; i++) {
            Check.due("rival(" + i + ")", x.rival(i), rivals[i]);
        }
        HalfShop alike = agreeing("ab", "ab", "ab");
        Check.due("of equal ones the first", alike.rival(0), 1);
        Check.due("of equal ones the first", alike.rival(1), 0);
        Check.due("of equal ones the first", alike.rival(2), 0);
        HalfShop both = agreeing("", "", "a");
        Check.due("both are not counts too", both.rival(0), 2);
        Check.due("of equal ones the first", both.rival(2), 0);
    }

    // "NONE: others, there is no other one"
    private static void rivalOfNobody() {
        Check.due("no other one", agreeing("a").rival(0), -1);
        Check.due("two", agreeing("a", "a").rival(0), 1);
        Check.due("without wares", seats(3, 4).rival(1), 0);
        Check.due("no party", new HalfShop().rival(0), -1);
    }

    // "FRIENDS: pairs of PARTIES that are for the same WARES."
    private static void friendsPairs() {
        Check.due("none", agreeing("a", "b", "ab", "c", "").friends(), 0);
        Check.due("one", agreeing("a", "b", "ab", "b", "").friends(), 1);
        Check.due("two pairs", agreeing("a", "b", "a", "b", "c").friends(), 2);
        Check.due("three alike and two alike", agreeing("a", "b", "a", "b", "a").friends(), 4);
        Check.due("all five", agreeing("abc", "abc", "abc", "abc", "abc").friends(), 10);
        Check.due("for nothing, all", agreeing("", "", "", "", "").friends(), 10);
        Check.due("one party", agreeing("a").friends(), 0);
    }

    // "BLOC of a WARE: PARTIES that are for it (bits). ORPHANS: WARES that no PARTY with seats is for (bits)."
    private static void blocsAndOrphans() {
        HalfShop x = Check.shop("ware a plain whole 4 done 0;ware b plain whole 4 done 0;ware c plain whole 4 done 0;"
            + "party p seats 1;party q seats 0;party r seats 2;for p a;for q b;for q a;for r a;");
        Check.due("bloc(0)", x.bloc(0), 7);
        Check.due("bloc(1), of a party without seats", x.bloc(1), 2);
        Check.due("bloc(2)", x.bloc(2), 0);
        for (int ware : new int[] {-1, 3, 6, Integer.MIN_VALUE, Integer.MAX_VALUE}) {
            Check.due("bloc(" + ware + ")", x.bloc(ware), -1);
        }
        Check.due("orphans", x.orphans(), 6);
        x.lend(0, 1, 1);
        Check.due("one seat is enough", x.orphans(), 4);
        x.undo();
        Check.due("orphans again", x.orphans(), 6);
        StringBuilder six = new StringBuilder("party p seats 0;");
        for (char c = 'a'; c <= 'f'; c++) {
            six.append("ware ").append(c).append(" plain whole 4 done 0;for p ").append(c).append(';');
        }
        Check.due("all six", Check.shop(six.toString()).orphans(), 63);
    }

    /** Sets with parties of a republic before are no sets any more. */
    private static void fewerPartiesThanBefore() {
        for (int many = 0; many <= 4; many++) {
            HalfShop x = seats(9, 9, 40, 40, 40);
            Check.due("core", x.core(), 0);
            StringBuilder s = new StringBuilder();
            for (int i = 0; i < many; i++) {
                s.append("party ").append((char) ('p' + i)).append(" seats ").append(i == 0 ? 2 : 1).append(";");
            }
            Check.due("republic", Check.republic(x, s.toString()), 0);
            HalfShop fresh = Check.shop(s.toString());
            Check.due("core of " + many, x.core(), fresh.core());
            Check.due("lean of " + many, x.lean(), fresh.lean());
            for (int i = 0; i <= 40; i++) {
                Check.due("ways", x.ways(i), fresh.ways(i));
            }
            for (int i = 0; i <= many; i++) {
                Check.due("pivot", x.pivot(i), fresh.pivot(i));
                Check.due("power", x.power(i), fresh.power(i));
            }
        }
        HalfShop two = seats(40, 40, 0, 40, 40);
        Check.due("core", two.core(), 0);
        Check.due("republic", Check.republic(two, "party p seats 2;party q seats 1;"), 0);
        Check.due("pivot", two.pivot(0), 2);
        Check.due("pivot", two.pivot(1), 0);
        Check.due("power", two.power(0), 1000000);
        Check.due("core", two.core(), 1);
        Check.due("lean", two.lean(), 1);
    }
}
