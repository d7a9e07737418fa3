/** Promises 13 to 19, 33 and 35: terms judged, weeks ahead, the most that are half, odd strikes, draws. */
public final class AheadTest {
    private static final String SHOP = "ware br bridge whole 20 done 4;ware pl plain whole 21 done 10;"
        + "ware le letter whole 20 done 0;ware cl clock whole 12 done 3;"
        + "party wh seats 10;party to seats 6;for wh br;fine 3;";

    public static void main(String[] args) {
        judged();
        whenAndCaught();
        joined();
        fines();
        round();
        most();
        chance();
        terms();
        nothingChanges();
        Check.end();
    }

    private static void judged() {
        HalfShop x = Check.shop(SHOP);
        dueJudged(x, -1, -1, 0);
        Check.term(x, "stop br 2;work br 7;lend to wh 6;lend to wh 1;work br 2;join br le;work le 10;join br le;week;");
        dueJudged(x, 3, 4, 3 + 30 + 3);
        Check.due("others", x.judged(-1), -2);
        Check.due("others", x.judged(3), -2);
        x.work(0, 20);
        x.week();
        dueJudged(x, 3, 4, 36);
        Check.term(x, "week;");
        dueJudged(x, -1, 0, 3);
        Check.term(x, "stop pl 1;week;week;");
        dueJudged(x, -1, 2, 3);
        Check.term(x, "join br le;");
        dueJudged(x, 0, -1, 0);
        HalfShop y = Check.shop("ware a plain whole 4 done 2;ware b plain whole 4 done 9;party p seats 40;"
            + "party q seats 40;party r seats 40;");
        Check.term(y, "join a b;lend p q 20;lend p q 20;lend r q 20;join a b;");
        dueJudged(y, 3, 0, 20);
    }

    private static void dueJudged(HalfShop x, int refused, int fined, int fines) {
        Check.due("judged(0)", x.judged(0), refused);
        Check.due("judged(1)", x.judged(1), fined);
        Check.due("judged(2)", x.judged(2), fines);
    }

    private static void whenAndCaught() {
        HalfShop x = Check.shop(SHOP);
        int[] when = {3, 0, 10, 5};
        int[] caught = {4, 1, -1, 7};
        for (int ware = 0; ware < 4; ware++) {
            Check.due("when " + ware, x.when(ware), when[ware]);
            Check.due("caught " + ware, x.caught(ware), caught[ware]);
        }
        x.week();
        Check.due("when of a clock in an odd week", x.when(3), 4);
        Check.due("caught of a clock in an odd week", x.caught(3), 6);
        for (int other : new int[] {-1, 4, Integer.MAX_VALUE, Integer.MIN_VALUE}) {
            Check.due("when others", x.when(other), -1);
            Check.due("caught others", x.caught(other), -1);
        }
        late("58", 60, 60);
        late("59", -1, -1);
        lateCaught("59", 60);
        lateCaught("60", -1);
        HalfShop never = Check.shop("ware a plain whole 4 done 1;works 0;");
        Check.due("when never", never.when(0), -1);
        Check.due("caught never", never.caught(0), -1);
    }

    private static void late(String date, int when, int joined) {
        HalfShop x = Check.shop("ware a plain whole 4 done 0;ware b plain whole 4 done 2;works (" + date + "<date)*2;");
        Check.due("when behind " + date, x.when(0), when);
        Check.due("joined behind " + date, x.joined(0, 1), joined);
        Check.due("joined behind " + date, x.joined(1, 0), joined);
    }

    private static void lateCaught(String date, int caught) {
        HalfShop x = Check.shop("ware a plain whole 4 done 2;works date=" + date + ";");
        Check.due("caught by " + date, x.caught(0), caught);
    }

    private static void joined() {
        HalfShop x = Check.shop(SHOP);
        Check.due("joined", x.joined(0, 2), 10);
        Check.due("joined", x.joined(2, 0), 10);
        Check.due("another whole", x.joined(0, 1), -1);
        Check.due("the same", x.joined(0, 0), -1);
        Check.due("others", x.joined(0, 4), -1);
        Check.due("others", x.joined(-1, 0), -1);
        x.work(0, 6);
        x.work(2, 10);
        Check.due("now", x.joined(0, 2), 0);
    }

    private static void fines() {
        HalfShop x = Check.shop(SHOP);
        int[] sums = {3, 6, 9, 18, 27, 36, 48};
        for (int weeks = 1; weeks <= sums.length; weeks++) {
            Check.due("fines " + weeks, x.fines(weeks), sums[weeks - 1]);
        }
        Check.due("fines 0", x.fines(0), -1);
        Check.due("fines -1", x.fines(-1), -1);
        Check.due("fines 61", x.fines(61), -1);
        Check.due("fines 60", x.fines(60), 180 + 57 * 6 + 27 * 3);
        x.work(1, 20);
        Check.due("only those of the weeks", x.fines(1), 3);
    }

    private static void round() {
        HalfShop x = Check.shop("ware a plain whole 4 done 2;ware b clock whole 4 done 2;ware c plain whole 5 done 2;"
            + "ware d letter whole 4 done 2;ware e plain whole 4 done 1;");
        Check.due("round", x.round(), 3);
        x.work(4, 1);
        Check.due("round", x.round(), 6);
        x.join(0, 1);
        Check.due("round", x.round(), 1);
    }

    private static void most() {
        HalfShop x = Check.shop("ware a plain whole 20 done 5;ware b plain whole 20 done 10;ware c plain whole 10 done 3;"
            + "ware d plain whole 20 done 8;ware e plain whole 20 done 8;");
        dueMost(x, 0, 1, 0, 2);
        dueMost(x, 1, 1, 0, 2);
        dueMost(x, 2, 2, 2, 6);
        dueMost(x, 3, 2, 2, 6);
        dueMost(x, 4, 3, 4, 14);
        dueMost(x, 6, 4, 6, 30);
        dueMost(x, 10, 4, 6, 30);
        dueMost(x, 11, 5, 11, 31);
        dueMost(x, 200, 5, 11, 31);
        Check.due("-1", x.most(-1, 0), -1);
        Check.due("201", x.most(201, 0), -1);
        Check.due("what -1", x.most(1, -1), -1);
        Check.due("what 3", x.most(1, 3), -1);
    }

    private static void dueMost(HalfShop x, int work, int many, int much, int which) {
        Check.due("most " + work + " many", x.most(work, 0), many);
        Check.due("most " + work + " much", x.most(work, 1), much);
        Check.due("most " + work + " which", x.most(work, 2), which);
    }

    private static void chance() {
        HalfShop x = Check.shop("ware a plain whole 4 done 2;ware b plain whole 4 done 1;ware c clock whole 4 done 2;"
            + "ware d letter whole 4 done 2;");
        Check.due("one week", x.chance(0, 1, 3), 700000);
        Check.due("two weeks", x.chance(0, 2, 3), 910000);
        Check.due("six weeks", x.chance(0, 6, 3), 999271);
        Check.due("always", x.chance(0, 6, 0), 1000000);
        Check.due("never", x.chance(0, 6, 10), 0);
        Check.due("not yet", x.chance(1, 1, 0), 0);
        Check.due("both", x.chance(1, 2, 3), 490000);
        Check.due("two of three", x.chance(1, 3, 3), 784000);
        Check.due("a clock has two of three", x.chance(2, 3, 3), 910000);
        Check.due("and one of two", x.chance(2, 2, 3), 700000);
        Check.due("a letter", x.chance(3, 6, 0), 0);
        x.week();
        Check.due("a clock rests", x.chance(2, 1, 0), 0);
        Check.due("ware -1", x.chance(-1, 1, 1), -1);
        Check.due("ware 4", x.chance(4, 1, 1), -1);
        Check.due("0 weeks", x.chance(0, 0, 1), -1);
        Check.due("7 weeks", x.chance(0, 7, 1), -1);
        Check.due("odds -1", x.chance(0, 1, -1), -1);
        Check.due("odds 11", x.chance(0, 1, 11), -1);
    }

    private static void terms() {
        // By seed 0: g becomes 12345 (0), 1406932606 (21468), 654583775 (9988), 1449466924 (22117), 229283573 (3498).
        HalfShop x = Check.shop("ware a plain whole 40 done 5;ware b plain whole 40 done 20;fine 3;works 0;");
        // ware 0 % 2, deed 21468 % 5 = 3: nothing.
        dueTerms(x, 0, 1, 0, 0, 25);
        // ware 9988 % 2 = 0, deed 22117 % 5 = 2: joined with 3498 % 2 = 0, the same: it can't be.
        dueTerms(x, 0, 2, 0, 0, 25);
        HalfShop y = new HalfShop();
        Check.due("without wares", y.terms(7, 99, 0), 0);
        Check.due("without wares", y.terms(7, 99, 2), 0);
        HalfShop z = Check.shop("ware a plain whole 4 done 2;ware b plain whole 4 done 2;fine 9;");
        z.work(0, 1);
        z.join(0, 1);
        int fines = z.terms(17, 99, 0);
        int joins = z.terms(17, 99, 1);
        Check.due("some are joined", joins > 0, true);
        Check.due("what was before is not counted", fines >= 90 * joins && fines % 9 == 0, true);
        Check.due("seed -1", x.terms(-1, 1, 0), -1);
        Check.due("seed 10000", x.terms(10000, 1, 0), -1);
        Check.due("seed 9999", x.terms(9999, 1, 1), 0);
        Check.due("0 weeks", x.terms(1, 0, 0), -1);
        Check.due("100 weeks", x.terms(1, 100, 0), -1);
        Check.due("what 3", x.terms(1, 1, 3), -1);
        Check.due("what -1", x.terms(1, 1, -1), -1);
    }

    private static void dueTerms(HalfShop x, int seed, int weeks, int fines, int joins, int done) {
        Check.due("terms fines", x.terms(seed, weeks, 0), fines);
        Check.due("terms joined", x.terms(seed, weeks, 1), joins);
        Check.due("terms done", x.terms(seed, weeks, 2), done);
    }

    private static void nothingChanges() {
        HalfShop x = Check.shop(SHOP + "works date*2-so;");
        Check.term(x, "work br 9;week;join br le;");
        x.week();
        x.work(0, 7);
        x.say(3, true);
        String before = Check.view(x);
        x.judged(0);
        x.when(2);
        x.caught(0);
        x.joined(0, 2);
        x.fines(60);
        x.round();
        x.most(100, 2);
        x.chance(0, 6, 4);
        x.terms(5, 99, 0);
        x.wholes(0);
        x.ask();
        x.shift(0, 0);
        Check.due("nothing changes", Check.view(x).equals(before), true);
        Check.due("undo", x.undo(), true);
        Check.due("week", x.count(3), 1);
    }
}
