/** Every call that is refused, on an object in use: its answer, and that all is then as if it had not been made. */
public final class RefusedTest {
    private static final int[] WARES = {-1, 3, 6, Integer.MIN_VALUE, Integer.MAX_VALUE};
    private static final int[] PARTIES = {-1, 3, 5, Integer.MIN_VALUE, Integer.MAX_VALUE};
    private static final int[] LOTS = {0, -1, 21, Integer.MIN_VALUE, Integer.MAX_VALUE};

    public static void main(String[] args) {
        work();
        stop();
        join();
        lend();
        undo();
        say();
        mark();
        asked();
        rests();
        Check.end();
    }

    /** Two wares half done of one whole, one not; a term, two marks, something said, undone, on the tape. */
    private static HalfShop used() {
        HalfShop x = Check.shop("ware aa plain whole 20 done 9;ware bb clock whole 20 done 10;ware cc plain whole 21 done 10;"
            + "party pp seats 10;party qq seats 5;party rr seats 0;for pp aa;for qq bb;fine 3;works 2;");
        Check.term(x, "work aa 9;week;join aa bb;lend rr pp 1;");
        x.say(3, true);
        x.mark(1, false);
        x.work(0, 4);
        x.lend(0, 2, 3);
        x.mark(2, false);
        x.week();
        Check.put(x, "fine 8");
        return x;
    }

    private static void work() {
        for (int ware : WARES) {
            Check.refused("work(" + ware + ", 1)", RefusedTest::used, x -> x.work(ware, 1), -1);
        }
        for (int much : LOTS) {
            Check.refused("work(0, " + much + ")", RefusedTest::used, x -> x.work(0, much), -1);
        }
    }

    private static void stop() {
        for (int ware : WARES) {
            Check.refused("stop(" + ware + ", 1)", RefusedTest::used, x -> x.stop(ware, 1), -1);
        }
        for (int much : LOTS) {
            Check.refused("stop(0, " + much + ")", RefusedTest::used, x -> x.stop(0, much), -1);
        }
    }

    private static void join() {
        for (int ware : WARES) {
            Check.refused("join(0, " + ware + ")", RefusedTest::used, x -> Check.bit(x.join(0, ware)), 0);
            Check.refused("join(" + ware + ", 0)", RefusedTest::used, x -> Check.bit(x.join(ware, 0)), 0);
            Check.refused("join(" + ware + ", same)", RefusedTest::used, x -> Check.bit(x.join(ware, ware)), 0);
        }
        Check.refused("join the same", RefusedTest::used, x -> Check.bit(x.join(1, 1)), 0);
        Check.refused("join another whole", RefusedTest::used, x -> Check.bit(x.join(0, 2)), 0);
        Check.refused("join what is not half", () -> stopped(), x -> Check.bit(x.join(0, 1)), 0);
        Check.refused("join with what is not half", () -> stopped(), x -> Check.bit(x.join(1, 0)), 0);
        Check.due("but these it can", used().join(0, 1), true);
    }

    private static HalfShop stopped() {
        HalfShop x = used();
        x.stop(0, 1);
        return x;
    }

    private static void lend() {
        for (int party : PARTIES) {
            Check.refused("lend(0, " + party + ", 1)", RefusedTest::used, x -> Check.bit(x.lend(0, party, 1)), 0);
            Check.refused("lend(" + party + ", 0, 1)", RefusedTest::used, x -> Check.bit(x.lend(party, 0, 1)), 0);
        }
        for (int seats : LOTS) {
            Check.refused("lend(0, 1, " + seats + ")", RefusedTest::used, x -> Check.bit(x.lend(0, 1, seats)), 0);
        }
        Check.refused("lend to the same", RefusedTest::used, x -> Check.bit(x.lend(0, 0, 1)), 0);
        Check.refused("lend what it has not", RefusedTest::used, x -> Check.bit(x.lend(0, 1, 8)), 0);
        Check.due("but what it has", used().lend(0, 1, 7), true);
        Check.refused("lend beyond 99", RefusedTest::crowded, x -> Check.bit(x.lend(2, 1, 2)), 0);
        Check.due("but up to 99", crowded().lend(2, 1, 1), true);
    }

    private static HalfShop crowded() {
        HalfShop x = Check.shop("party p seats 40;party q seats 40;party r seats 40;");
        x.lend(0, 1, 20);
        x.lend(0, 1, 20);
        x.lend(2, 1, 18);
        return x;
    }

    private static void undo() {
        Check.refused("undo at first", HalfShop::new, x -> Check.bit(x.undo()), 0);
        Check.refused("undo behind a republic", () -> Check.shop("ware a plain whole 9 done 1;"), x -> Check.bit(x.undo()), 0);
        Check.refused("undo behind a mark", RefusedTest::wentBack, x -> Check.bit(x.undo()), 0);
    }

    private static HalfShop wentBack() {
        HalfShop x = used();
        x.mark(2, true);
        return x;
    }

    private static void say() {
        for (int weeks : new int[] {-1, 31, Integer.MIN_VALUE, Integer.MAX_VALUE}) {
            Check.refused("say(" + weeks + ", true)", RefusedTest::used, x -> Check.bit(x.say(weeks, true)), 0);
            Check.refused("say(" + weeks + ", false)", RefusedTest::used, x -> Check.bit(x.say(weeks, false)), 0);
        }
        Check.refused("a ninth", RefusedTest::talkative, x -> Check.bit(x.say(1, true)), 0);
        Check.refused("a ninth", RefusedTest::talkative, x -> Check.bit(x.say(1, false)), 0);
    }

    private static HalfShop talkative() {
        HalfShop x = used();
        for (int i = 2; i <= 8; i++) {
            Check.due("say", x.say(4, true), true);
        }
        return x;
    }

    private static void mark() {
        for (int mark : new int[] {-1, 4, Integer.MIN_VALUE, Integer.MAX_VALUE}) {
            Check.refused("mark(" + mark + ", false)", RefusedTest::used, x -> Check.bit(x.mark(mark, false)), 0);
            Check.refused("mark(" + mark + ", true)", RefusedTest::used, x -> Check.bit(x.mark(mark, true)), 0);
        }
        Check.refused("mark(0, true)", RefusedTest::used, x -> Check.bit(x.mark(0, true)), 0);
        Check.refused("mark(3, true)", RefusedTest::used, x -> Check.bit(x.mark(3, true)), 0);
    }

    /** What is only asked changes nothing, refused or not. */
    private static void asked() {
        Check.refused("ware(3, 0)", RefusedTest::used, x -> x.ware(3, 0), -1);
        Check.refused("party(3, 0)", RefusedTest::used, x -> x.party(3, 0), -1);
        Check.refused("judged(3)", RefusedTest::used, x -> x.judged(3), -2);
        Check.refused("judged(2)", RefusedTest::used, x -> x.judged(2), 3 * (8 + 2 + 2 + 2) + 30);
        Check.refused("when(3)", RefusedTest::used, x -> x.when(3), -1);
        Check.refused("when(0)", RefusedTest::used, x -> x.when(0), 0);
        Check.refused("caught(3)", RefusedTest::used, x -> x.caught(3), -1);
        Check.refused("caught(1)", RefusedTest::used, x -> x.caught(1), 2);
        Check.refused("joined(0, 2)", RefusedTest::used, x -> x.joined(0, 2), -1);
        Check.refused("joined(0, 1)", RefusedTest::used, x -> x.joined(0, 1), 0);
        Check.refused("fines(61)", RefusedTest::used, x -> x.fines(61), -1);
        Check.refused("fines(2)", RefusedTest::used, x -> x.fines(2), 3 * (4 + 2 + 4));
        Check.refused("round()", RefusedTest::used, x -> x.round(), 1);
        Check.refused("most(201, 0)", RefusedTest::used, x -> x.most(201, 0), -1);
        Check.refused("most(200, 2)", RefusedTest::used, x -> x.most(200, 2), 7);
        Check.refused("ways(201)", RefusedTest::used, x -> x.ways(201), -1);
        Check.refused("ways(8)", RefusedTest::used, x -> x.ways(8), 1);
        Check.refused("pivot(3)", RefusedTest::used, x -> x.pivot(3), -1);
        Check.refused("power(0)", RefusedTest::used, x -> x.power(0), 333333);
        Check.refused("core()", RefusedTest::used, x -> x.core(), 0);
        Check.refused("lean()", RefusedTest::used, x -> x.lean(), 3);
        Check.refused("shift(0, 3)", RefusedTest::used, x -> x.shift(0, 3), -2);
        Check.refused("shift(0, 0)", RefusedTest::used, x -> x.shift(0, 0), -2);
        Check.refused("rival(3)", RefusedTest::used, x -> x.rival(3), -1);
        Check.refused("friends()", RefusedTest::used, x -> x.friends(), 0);
        Check.refused("bloc(3)", RefusedTest::used, x -> x.bloc(3), -1);
        Check.refused("orphans()", RefusedTest::used, x -> x.orphans(), 4);
        Check.refused("wholes(3)", RefusedTest::used, x -> x.wholes(3), -1);
        Check.refused("ask()", RefusedTest::used, x -> x.ask(), 1);
        Check.refused("chance(0, 7, 1)", RefusedTest::used, x -> x.chance(0, 7, 1), -1);
        Check.refused("chance(0, 6, 9)", RefusedTest::used, x -> x.chance(0, 6, 9), 468559);
        Check.refused("terms(0, 100, 0)", RefusedTest::used, x -> x.terms(0, 100, 0), -1);
        Check.refused("terms(2, 1, 1)", RefusedTest::used, x -> x.terms(0, 1, 1), 0);
        Check.refused("count(13)", RefusedTest::used, x -> x.count(13), -1);
    }

    private static void rests() {
        Check.refused("rests that are none", RefusedTest::used, RefusedTest::wrongRests, 4);
    }

    private static int wrongRests(HalfShop x) {
        Check.dueNoSuch(x, 10, 0, 0, -1);
        Check.dueNoSuch(x, 0, -1, 0, 0);
        Check.dueNoSuch(x, 1, 1, 1, 2);
        Check.dueNoSuch(x, 1, 1, 1, -2);
        return x.rests(0, 0, 0, -1);
    }
}
