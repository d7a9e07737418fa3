/** Promises 5 to 12, 36 and 37: what is done by hand, seen, undone, marked. */
public final class HandTest {
    private static final String SHOP = "ware br bridge whole 20 done 4;ware pl plain whole 21 done 10;"
        + "ware le letter whole 20 done 0;ware cl clock whole 12 done 30;"
        + "party wh seats 10;party to seats 6;party ra seats 4;party po seats 0;"
        + "for wh br;for wh pl;for to br;for ra le;for po cl;for to le;fine 3;";

    public static void main(String[] args) {
        seen();
        workAndStop();
        join();
        lend();
        weeks();
        undo();
        marks();
        Check.end();
    }

    private static void seen() {
        HalfShop x = Check.shop(SHOP);
        int[][] wares = {{0, 1, 20, 4, 10, 16, 2}, {1, 0, 21, 10, 10, 10, 1}, {2, 2, 20, 0, 10, 10, 1},
            {3, 3, 12, 6, 6, 0, 0}};
        for (int[] w : wares) {
            for (int what = 0; what <= 5; what++) {
                Check.due("ware(" + w[0] + ", " + what + ")", x.ware(w[0], what), w[what + 1]);
            }
            Check.due("ware what -1", x.ware(w[0], -1), -1);
            Check.due("ware what 6", x.ware(w[0], 6), -1);
        }
        Check.due("ware -1", x.ware(-1, 0), -1);
        Check.due("ware 4", x.ware(4, 0), -1);
        Check.due("ware least", x.ware(Integer.MIN_VALUE, 0), -1);
        Check.due("ware most", x.ware(Integer.MAX_VALUE, Integer.MAX_VALUE), -1);
        int[][] parties = {{10, 3}, {6, 5}, {4, 4}, {0, 8}};
        for (int p = 0; p < 4; p++) {
            Check.due("party seats", x.party(p, 0), parties[p][0]);
            Check.due("party causes", x.party(p, 1), parties[p][1]);
            Check.due("party what 2", x.party(p, 2), -1);
            Check.due("party what -1", x.party(p, -1), -1);
        }
        Check.due("party -1", x.party(-1, 0), -1);
        Check.due("party 4", x.party(4, 0), -1);
        int[] counts = {4, 4, 3, 0, 0, 20, 10, 20, 0, 0, 0, 0, 0};
        for (int what = 0; what < counts.length; what++) {
            Check.due("count(" + what + ")", x.count(what), counts[what]);
        }
        Check.due("count(13)", x.count(13), -1);
        Check.due("count(-1)", x.count(-1), -1);
        HalfShop none = Check.shop("ware a plain whole 4 done 0;party p seats 0;for p a;");
        Check.due("no seats, lost", none.ware(0, 5), 0);
    }

    private static void workAndStop() {
        HalfShop x = Check.shop(SHOP);
        Check.due("work", x.work(0, 6), 0);
        Check.due("done", x.ware(0, 2), 10);
        Check.due("beyond", x.work(0, 5), 15);
        Check.due("not done", x.ware(0, 2), 10);
        Check.due("some beyond", x.work(2, 12), 6);
        Check.due("fines", x.count(4), 21);
        Check.due("half done", x.count(6), 15);
        Check.due("undone up to now", x.count(11), 3);
        int[][] wrong = {{-1, 1}, {4, 1}, {0, 0}, {0, 21}, {0, -1}, {0, Integer.MIN_VALUE}};
        for (int[] w : wrong) {
            Check.due("work others", x.work(w[0], w[1]), -1);
            Check.due("stop others", x.stop(w[0], w[1]), -1);
        }
        Check.due("others are no deeds", x.count(11), 3);
        Check.due("fines stay", x.count(4), 21);
        Check.due("stop", x.stop(0, 4), 6);
        Check.due("stop", x.stop(0, 20), 0);
        Check.due("stop at 0", x.stop(0, 1), 0);
        Check.due("a stop all the same", x.count(11), 6);
        Check.due("fines stay", x.count(4), 21);
    }

    private static void join() {
        HalfShop x = Check.shop(SHOP);
        Check.due("not half", x.join(0, 2), false);
        x.work(0, 6);
        Check.due("one is not half", x.join(0, 2), false);
        x.work(2, 10);
        Check.due("another whole", x.join(0, 1), false);
        Check.due("the same", x.join(0, 0), false);
        Check.due("others", x.join(0, 4), false);
        Check.due("others", x.join(-1, 0), false);
        Check.due("nothing fined", x.count(4), 0);
        Check.due("join", x.join(2, 0), true);
        Check.due("fined", x.count(4), 30);
        Check.due("joined", x.count(8), 1);
        Check.due("nothing done", x.ware(0, 2) + x.ware(2, 2), 0);
        Check.due("the others stay", x.count(5), 16);
        Check.due("again", x.join(2, 0), false);
        Check.due("undone up to now", x.count(11), 3);
    }

    private static void lend() {
        HalfShop x = Check.shop(SHOP);
        Check.due("lend", x.lend(0, 3, 10), true);
        Check.due("by whom", x.party(0, 0), 0);
        Check.due("to whom", x.party(3, 0), 10);
        Check.due("all seats", x.count(7), 20);
        Check.due("votes", x.ware(3, 4), 10);
        Check.due("halved", x.ware(3, 5), 1);
        Check.due("has none", x.lend(0, 1, 1), false);
        Check.due("has not so many", x.lend(1, 0, 7), false);
        Check.due("the same", x.lend(1, 1, 1), false);
        Check.due("others", x.lend(1, 4, 1), false);
        Check.due("others", x.lend(-1, 1, 1), false);
        Check.due("0 seats", x.lend(1, 2, 0), false);
        Check.due("-1 seats", x.lend(1, 2, -1), false);
        Check.due("undone up to now", x.count(11), 1);
        HalfShop y = Check.shop("party a seats 40;party b seats 40;party c seats 40;");
        Check.due("21", y.lend(0, 1, 21), false);
        Check.due("20", y.lend(0, 1, 20), true);
        Check.due("20", y.lend(0, 1, 20), true);
        Check.due("20 too many", y.lend(2, 1, 20), false);
        Check.due("19", y.lend(2, 1, 19), true);
        Check.due("99", y.party(1, 0), 99);
        Check.due("1 too many", y.lend(2, 1, 1), false);
        Check.due("away again", y.lend(1, 2, 20), true);
    }

    private static void weeks() {
        HalfShop x = Check.shop("ware br bridge whole 20 done 0;ware pl plain whole 21 done 0;"
            + "ware le letter whole 20 done 0;ware cl clock whole 40 done 0;fine 3;works 3;");
        Check.due("week", x.week(), 0);
        dueDone(x, 6, 3, 3, 3);
        Check.due("week number", x.count(3), 1);
        Check.due("a bridge is fined from both ends", x.week(), 6);
        dueDone(x, 10, 6, 6, 3);
        Check.due("week", x.week(), 18);
        dueDone(x, 10, 9, 8, 6);
        Check.due("week", x.week(), 24);
        dueDone(x, 10, 10, 9, 6);
        Check.due("week", x.week(), 27);
        dueDone(x, 10, 10, 10, 9);
        Check.due("a letter is never fined", x.week(), 27);
        dueDone(x, 10, 10, 10, 9);
        Check.due("fines of all", x.count(4), 102);
        Check.due("week number", x.count(3), 6);
        HalfShop y = Check.shop("ware a plain whole 60 done 0;works date*5;");
        y.week();
        Check.due("week 0", y.ware(0, 2), 0);
        y.week();
        Check.due("week 1", y.ware(0, 2), 5);
        y.week();
        Check.due("9 at most", y.ware(0, 2), 14);
        HalfShop z = Check.shop("ware a letter whole 60 done 1;works 20;");
        z.week();
        Check.due("9 at most of a letter", z.ware(0, 2), 10);
        HalfShop b = Check.shop("ware a bridge whole 60 done 1;works half-so;");
        b.week();
        Check.due("9 from both ends", b.ware(0, 2), 19);
        b.week();
        Check.due("twice by what is so before", b.ware(0, 2), 30);
        Check.due("and so fined", b.count(4), 14);
    }

    private static void dueDone(HalfShop x, int... done) {
        for (int i = 0; i < done.length; i++) {
            Check.due("done of " + i + " in week " + x.count(3), x.ware(i, 2), done[i]);
        }
    }

    private static void undo() {
        HalfShop x = Check.shop(SHOP);
        String first = Check.view(x);
        x.work(0, 6);
        x.work(2, 11);
        x.join(0, 2);
        x.lend(0, 3, 2);
        x.stop(1, 3);
        x.week();
        Check.due("can be undone", x.count(11), 6);
        for (int i = 5; i >= 0; i--) {
            Check.due("undo", x.undo(), true);
            Check.due("left", x.count(11), i);
        }
        Check.due("as at first", Check.view(x).equals(first), true);
        Check.due("no more", x.undo(), false);
        for (int i = 0; i < 20; i++) {
            x.week();
        }
        Check.due("16 at most", x.count(11), 16);
        for (int i = 19; i >= 4; i--) {
            Check.due("undo", x.undo(), true);
            Check.due("week", x.count(3), i);
        }
        Check.due("no more than 16", x.undo(), false);
        Check.due("week", x.count(3), 4);
        x.say(3, true);
        Check.term(x, "week;");
        x.mark(0, false);
        Check.due("no deeds", x.count(11), 0);
        x.work(2, 1);
        x.say(4, true);
        Check.term(x, "week;week;");
        Check.due("undo", x.undo(), true);
        Check.due("the term stays", x.count(9), 2);
        Check.due("what is said stays", x.count(10), 2);
    }

    private static void marks() {
        HalfShop x = Check.shop(SHOP);
        for (int mark = -1; mark <= 4; mark++) {
            Check.due("nothing on it", x.mark(mark, true), false);
        }
        Check.due("none such", x.mark(-1, false), false);
        Check.due("none such", x.mark(4, false), false);
        Check.term(x, "work br 20;week;");
        x.say(2, false);
        x.work(0, 20);
        String one = Check.view(x);
        Check.due("laid", x.mark(0, false), true);
        Check.due("nothing changes", Check.view(x).equals(one), true);
        x.week();
        x.lend(0, 1, 3);
        x.work(2, 20);
        x.join(0, 2);
        x.say(20, true);
        Check.term(x, "join br le;");
        Check.put(x, "fine");
        Check.due("laid", x.mark(3, false), true);
        Check.due("back", x.mark(0, true), true);
        Check.due("nothing can be undone", x.count(11), 0);
        Check.due("undo", x.undo(), false);
        Check.due("the tape stays", x.count(12), 4);
        Check.due("week", x.count(3), 0);
        Check.due("fines", x.count(4), 42);
        Check.due("joined", x.count(8), 0);
        Check.due("seats", x.party(0, 0), 10);
        Check.due("lines", x.count(9), 2);
        Check.due("judged", x.judged(1), 0);
        Check.due("judged", x.judged(2), 42 + 12);
        Check.due("said", x.count(10), 1);
        Check.due("wholes", x.wholes(1), 6);
        Check.due("on", x.mark(3, true), true);
        Check.due("week", x.count(3), 1);
        Check.due("joined", x.count(8), 1);
        Check.due("said", x.count(10), 2);
        Check.due("lines", x.count(9), 1);
        Check.due("judged", x.judged(0), 0);
        Check.due("seats", x.party(1, 0), 9);
        x.week();
        Check.due("a mark goes on being there", x.mark(0, true), true);
        Check.due("fines", x.count(4), 42);
        x.week();
        Check.due("laid anew", x.mark(0, false), true);
        x.week();
        Check.due("back", x.mark(0, true), true);
        Check.due("week", x.count(3), 1);
        Check.due("no other one", x.mark(1, true), false);
    }
}
