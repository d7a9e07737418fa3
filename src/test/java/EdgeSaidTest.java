/** Promises 30 to 32 at their edges: what is said, eight times at most, of wholes of 2 to 60, behind 0 to 30 weeks. */
public final class EdgeSaidTest {
    public static void main(String[] args) {
        weeksSaid();
        eightSaid();
        leastAndGreatestWhole();
        noneIsLeft();
        wholesWhat();
        behindThirty();
        askedFirst();
        askedLast();
        askedOfOneOrNone();
        askedOfEqualOnes();
        withoutVotesAndDone();
        fromTheWeekThatItIs();
        saidIsNoDeed();
        Check.end();
    }

    private static void dueWholes(String call, HalfShop x, int many, int least, int greatest) {
        Check.due(call + ": many", x.wholes(0), many);
        Check.due(call + ": least", x.wholes(1), least);
        Check.due(call + ": greatest", x.wholes(2), greatest);
    }

    // "HALF done behind so many (0 to 30) WEEKS, or is not"; "false: others"
    private static void weeksSaid() {
        for (int weeks : new int[] {-1, 31, 32, Integer.MIN_VALUE, Integer.MAX_VALUE}) {
            for (int half = 0; half <= 1; half++) {
                HalfShop x = new HalfShop();
                Check.due("say " + weeks, x.say(weeks, half == 1), false);
                Check.due("nothing is said", x.count(10), 0);
                dueWholes("all", x, 59, 2, 60);
            }
        }
        for (int weeks = 0; weeks <= 30; weeks++) {
            HalfShop yes = new HalfShop();
            Check.due("say " + weeks, yes.say(weeks, true), true);
            Check.due("said", yes.count(10), 1);
            Check.due("so many by " + weeks, yes.wholes(0), weeks == 0 ? 0 : weeks == 30 ? 59 : 2 * weeks);
            HalfShop not = new HalfShop();
            Check.due("say " + weeks, not.say(weeks, false), true);
            Check.due("said", not.count(10), 1);
            Check.due("so many not by " + weeks, not.wholes(0), weeks == 0 ? 59 : weeks == 30 ? 0 : 59 - 2 * weeks);
        }
    }

    // "8 at most"; "false: .. 8 there are"
    private static void eightSaid() {
        HalfShop x = new HalfShop();
        for (int i = 1; i <= 8; i++) {
            Check.due("say " + i, x.say(i, false), true);
            Check.due("said", x.count(10), i);
        }
        dueWholes("eight", x, 43, 18, 60);
        Check.due("a ninth that would tell something", x.say(20, true), false);
        Check.due("a ninth that is known", x.say(8, false), false);
        Check.due("said", x.count(10), 8);
        dueWholes("all stays", x, 43, 18, 60);
        HalfShop same = new HalfShop();
        for (int i = 1; i <= 8; i++) {
            Check.due("the same is said again", same.say(30, true), true);
        }
        Check.due("a ninth", same.say(30, true), false);
        dueWholes("all", same, 59, 2, 60);
        HalfShop last = new HalfShop();
        for (int i = 1; i <= 7; i++) {
            last.say(0, false);
        }
        Check.due("the eighth", last.say(1, true), true);
        dueWholes("the eighth counts", last, 2, 2, 3);
    }

    // "of a whole of 2 to 60"
    private static void leastAndGreatestWhole() {
        HalfShop least = new HalfShop();
        least.say(1, true);
        dueWholes("by 1", least, 2, 2, 3);
        HalfShop greatest = new HalfShop();
        greatest.say(29, false);
        dueWholes("not by 29", greatest, 1, 60, 60);
        HalfShop next = new HalfShop();
        next.say(28, false);
        dueWholes("not by 28", next, 3, 58, 60);
        HalfShop between = new HalfShop();
        between.say(10, true);
        between.say(9, false);
        dueWholes("just by 10", between, 2, 20, 21);
    }

    // "NONE: .. none (but 0)"
    private static void noneIsLeft() {
        HalfShop x = new HalfShop();
        x.say(0, true);
        dueWholes("half done of nothing", x, 0, -1, -1);
        Check.due("ask", x.ask(), -1);
        HalfShop y = new HalfShop();
        y.say(30, false);
        dueWholes("never", y, 0, -1, -1);
        HalfShop z = new HalfShop();
        z.say(7, true);
        z.say(7, false);
        dueWholes("both", z, 0, -1, -1);
        HalfShop idle = Check.shop("works 0;");
        idle.say(30, true);
        dueWholes("nobody works", idle, 0, -1, -1);
    }

    private static void wholesWhat() {
        HalfShop x = new HalfShop();
        for (int what : new int[] {-1, 3, Integer.MIN_VALUE, Integer.MAX_VALUE}) {
            Check.due("wholes(" + what + ")", x.wholes(what), -1);
        }
        dueWholes("all", x, 59, 2, 60);
    }

    // Behind 30 weeks, not one more: what is worked in the 31st comes too late.
    private static void behindThirty() {
        HalfShop x = Check.shop("works date=29;");
        x.say(30, true);
        dueWholes("in the 30th", x, 2, 2, 3);
        HalfShop y = Check.shop("works date=30;");
        y.say(30, true);
        dueWholes("in the 31st", y, 0, -1, -1);
        HalfShop z = Check.shop("works (date=29)*9;");
        Check.due("only the last one parts them", z.ask(), 30);
        HalfShop late = Check.shop("works (date=30)*9;");
        Check.due("none parts them", late.ask(), -1);
    }

    // "ASK: the least number of WEEKS (0 to 30) behind which the greater number .. is the least"
    private static void askedFirst() {
        HalfShop x = Check.shop("works 9;");
        // Behind 1: wholes 2 to 19 (18 of 59), 2: to 37 (36), 3: to 55 (54), 4: all.
        Check.due("ask", x.ask(), 2);
        x.say(2, true);
        Check.due("18 of 36", x.ask(), 1);
        x.say(1, true);
        Check.due("all by 1", x.ask(), -1);
        HalfShop y = Check.shop("works 9;");
        y.say(2, false);
        // 38 to 60 are left: 18 of 23 by 3.
        Check.due("ask", y.ask(), 3);
        y.say(3, false);
        Check.due("56 to 60, all by 4", y.ask(), -1);
    }

    private static void askedLast() {
        HalfShop x = new HalfShop();
        x.say(28, false);
        dueWholes("three", x, 3, 58, 60);
        Check.due("58 and 59 by 29", x.ask(), 29);
        x.say(29, true);
        dueWholes("two", x, 2, 58, 59);
        Check.due("nothing parts 58 and 59", x.ask(), -1);
    }

    // "if that is less than all"; "NONE: none parts them"
    private static void askedOfOneOrNone() {
        HalfShop one = new HalfShop();
        one.say(29, false);
        Check.due("one is left", one.wholes(0), 1);
        Check.due("nothing is to be asked", one.ask(), -1);
        HalfShop none = new HalfShop();
        none.say(0, true);
        Check.due("none is left", none.wholes(0), 0);
        Check.due("nothing is to be asked", none.ask(), -1);
        HalfShop idle = Check.shop("works 0;");
        Check.due("all are left", idle.wholes(0), 59);
        Check.due("none parts them", idle.ask(), -1);
        HalfShop atOnce = Check.shop("works (half<10)*9;");
        Check.due("18 by 1, the others never", atOnce.ask(), 1);
    }

    private static void askedOfEqualOnes() {
        // All that are ever half done are so behind 5 weeks: each number from 5 on parts them alike.
        HalfShop x = Check.shop("works (date=4)*5;");
        Check.due("the least of equal ones", x.ask(), 5);
        HalfShop y = new HalfShop();
        y.say(2, true);
        Check.due("2 of 4", y.ask(), 1);
        HalfShop z = new HalfShop();
        z.say(3, true);
        // 2 of 6 by 1, 4 of 6 by 2: the greater number is 4 either way.
        Check.due("the least of equal ones", z.ask(), 1);
    }

    // "an unknown plain ware, .. of which nothing is done now, without votes"
    private static void withoutVotesAndDone() {
        HalfShop x = Check.shop("ware a bridge whole 60 done 20;party p seats 40;for p a;works 1+votes+8*(0<so and so<3);");
        x.work(0, 5);
        // 1, then 9 more at so 1: 10, then 1 each.
        x.say(2, true);
        dueWholes("by 2", x, 20, 2, 21);
        HalfShop half = Check.shop("works half<5;");
        half.say(30, true);
        dueWholes("half is its own", half, 8, 2, 9);
    }

    private static void fromTheWeekThatItIs() {
        HalfShop x = Check.shop("works 2<date;");
        x.say(4, true);
        dueWholes("in week 0", x, 2, 2, 3);
        x.week();
        dueWholes("in week 1", x, 4, 2, 5);
        x.week();
        x.week();
        dueWholes("in week 3", x, 8, 2, 9);
        x.undo();
        dueWholes("in week 2", x, 6, 2, 7);
    }

    private static void saidIsNoDeed() {
        HalfShop x = new HalfShop();
        x.week();
        x.say(3, true);
        Check.due("one deed", x.count(11), 1);
        Check.due("undo", x.undo(), true);
        Check.due("said stays", x.count(10), 1);
        Check.due("no more", x.undo(), false);
    }
}
