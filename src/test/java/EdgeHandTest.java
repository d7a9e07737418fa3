/** Promises 5 to 12 and 37 at their edges: half, work, stop, join, lend, a week, undo, votes. */
public final class EdgeHandTest {
    public static void main(String[] args) {
        halfIsCut();
        workUpToHalf();
        workOneToTwenty();
        stopAtNothing();
        stopOneToTwenty();
        joinBothHalf();
        joinSameWhole();
        joinIsArrested();
        lendWhatItHas();
        lendNinetyNine();
        lendOneToTwenty();
        plainWeek();
        bridgeWeek();
        letterWeek();
        clockWeek();
        weekByNumbers();
        sixteenUndone();
        undoneAroundTheRing();
        undoneOneByOne();
        votes();
        seatsOfNobody();
        wareAndPartyWhat();
        countWhat();
        Check.end();
    }

    // "HALF of a ware is half of its whole, cut."
    private static void halfIsCut() {
        for (int whole = 2; whole <= 60; whole++) {
            HalfShop x = Check.shop("ware a plain whole " + whole + " done 30;");
            Check.due("half of " + whole, x.ware(0, 3), (whole - whole % 2) / 2);
            Check.due("whole", x.ware(0, 1), whole);
            Check.due("half done", x.ware(0, 2), (whole - whole % 2) / 2);
        }
    }

    // "what is beyond HALF is FINED, each by the fine, and is not done"
    private static void workUpToHalf() {
        int[][] told = {{9, 0, 9}, {10, 0, 10}, {11, 3, 10}, {12, 6, 10}, {20, 30, 10}};
        for (int[] t : told) {
            HalfShop x = Check.shop("ware a plain whole 21 done 0;fine 3;");
            Check.due("work " + t[0], x.work(0, t[0]), t[1]);
            Check.due("done", x.ware(0, 2), t[2]);
            Check.due("fines", x.count(4), t[1]);
            Check.due("half", x.count(6), t[2] == 10 ? 1 : 0);
        }
        HalfShop x = Check.shop("ware a plain whole 2 done 1;ware b plain whole 2 done 0;fine 9;");
        Check.due("beyond half", x.work(0, 1), 9);
        Check.due("beyond half", x.work(0, 20), 180);
        Check.due("all but one", x.work(1, 20), 171);
        Check.due("fines of all", x.count(4), 360);
        Check.due("done of all", x.count(5), 2);
        HalfShop one = Check.shop("ware a plain whole 2 done 1;fine 1;");
        Check.due("the least fine", one.work(0, 1), 1);
        // By hand each kind is worked at just so.
        HalfShop kinds = Check.shop("ware a bridge whole 60 done 0;ware b letter whole 60 done 0;"
            + "ware c clock whole 60 done 0;works 0;");
        kinds.week();
        for (int i = 0; i < 3; i++) {
            Check.due("work", kinds.work(i, 20), 0);
            Check.due("done", kinds.ware(i, 2), 20);
        }
        Check.due("a letter beyond", kinds.work(1, 11), 2);
    }

    // "WORK (1 to 20): what is FINED; NONE: others"
    private static void workOneToTwenty() {
        HalfShop x = Check.shop("ware a plain whole 60 done 0;ware b plain whole 60 done 0;");
        int[][] others = {{0, 0}, {0, 21}, {0, -1}, {0, Integer.MIN_VALUE}, {0, Integer.MAX_VALUE}, {-1, 1}, {2, 1},
            {6, 1}, {Integer.MIN_VALUE, 1}, {Integer.MAX_VALUE, 1}};
        for (int[] o : others) {
            Check.due("work " + o[0] + " " + o[1], x.work(o[0], o[1]), -1);
            Check.due("nothing is done", x.count(5), 0);
            Check.due("nothing can be undone", x.count(11), 0);
        }
        Check.due("1", x.work(0, 1), 0);
        Check.due("20", x.work(1, 20), 0);
        Check.due("done", x.ware(0, 2), 1);
        Check.due("done", x.ware(1, 2), 20);
    }

    // "STOP: so much less, 0 at least."
    private static void stopAtNothing() {
        HalfShop x = Check.shop("ware a plain whole 20 done 10;");
        Check.due("stop 1", x.stop(0, 1), 9);
        Check.due("stop 8", x.stop(0, 8), 1);
        Check.due("the last one", x.stop(0, 1), 0);
        Check.due("at nothing", x.stop(0, 1), 0);
        Check.due("at nothing", x.stop(0, 20), 0);
        Check.due("a deed all the same", x.count(11), 5);
        x.work(0, 5);
        Check.due("just as many", x.stop(0, 5), 0);
        x.work(0, 5);
        Check.due("one more than there is", x.stop(0, 6), 0);
        Check.due("nothing is fined", x.count(4), 0);
        Check.due("undo", x.undo(), true);
        Check.due("what it was", x.ware(0, 2), 5);
    }

    private static void stopOneToTwenty() {
        HalfShop x = Check.shop("ware a plain whole 60 done 30;ware b plain whole 60 done 30;");
        int[][] others = {{0, 0}, {0, 21}, {0, -1}, {0, Integer.MIN_VALUE}, {0, Integer.MAX_VALUE}, {-1, 1}, {2, 1},
            {6, 1}, {Integer.MIN_VALUE, 1}, {Integer.MAX_VALUE, 1}};
        for (int[] o : others) {
            Check.due("stop " + o[0] + " " + o[1], x.stop(o[0], o[1]), -1);
            Check.due("all is done", x.count(5), 60);
            Check.due("nothing can be undone", x.count(11), 0);
        }
        Check.due("1", x.stop(0, 1), 29);
        Check.due("20", x.stop(1, 20), 10);
    }

    // "JOIN two WARES of the same whole that are both HALF done"
    private static void joinBothHalf() {
        for (int first = 9; first <= 10; first++) {
            for (int second = 9; second <= 10; second++) {
                HalfShop x = Check.shop("ware a plain whole 20 done " + first + ";ware b clock whole 20 done " + second + ";");
                boolean can = first + second == 20;
                Check.due("round " + first + " " + second, x.round(), can ? 1 : 0);
                Check.due("join " + first + " " + second, x.join(0, 1), can);
                Check.due("joined", x.count(8), can ? 1 : 0);
                Check.due("can be undone", x.count(11), can ? 1 : 0);
                Check.due("done", x.count(5), can ? 0 : first + second);
                Check.due("fines", x.count(4), can ? 20 : 0);
            }
        }
    }

    private static void joinSameWhole() {
        HalfShop x = Check.shop("ware a plain whole 20 done 10;ware b plain whole 21 done 10;ware c plain whole 19 done 9;"
            + "ware d plain whole 20 done 10;");
        Check.due("the same half, another whole", x.join(0, 1), false);
        Check.due("another whole", x.join(2, 0), false);
        Check.due("the same", x.join(0, 0), false);
        int[][] others = {{-1, 0}, {0, -1}, {4, 0}, {0, 4}, {-1, -1}, {4, 4}, {6, 7}, {Integer.MIN_VALUE, 0},
            {0, Integer.MAX_VALUE}};
        for (int[] o : others) {
            Check.due("others", x.join(o[0], o[1]), false);
        }
        Check.due("nothing is done by these", x.count(11), 0);
        Check.due("nothing is fined", x.count(4), 0);
        Check.due("all is done", x.count(5), 39);
        Check.due("the second one first", x.join(3, 0), true);
    }

    // "it is a ROUND thing, and arrested: 10 times the fine; nothing is done of either then"
    private static void joinIsArrested() {
        for (int fine = 1; fine <= 9; fine += 4) {
            HalfShop x = Check.shop("ware a plain whole 3 done 1;ware b plain whole 3 done 1;ware c plain whole 3 done 1;"
                + "fine " + fine + ";");
            Check.due("join", x.join(0, 2), true);
            Check.due("fines", x.count(4), 10 * fine);
            Check.due("of the first", x.ware(0, 2), 0);
            Check.due("of the other", x.ware(2, 2), 0);
            Check.due("of a third", x.ware(1, 2), 1);
            Check.due("not again", x.join(0, 2), false);
            Check.due("nor with the third", x.join(1, 2), false);
            x.work(0, 1);
            Check.due("but when it is half again", x.join(0, 1), true);
            Check.due("joined", x.count(8), 2);
            Check.due("fines", x.count(4), 20 * fine);
        }
    }

    // "LEND so many seats of a PARTY that has them"
    private static void lendWhatItHas() {
        HalfShop x = Check.shop("party p seats 7;party q seats 0;party r seats 1;");
        Check.due("one more than it has", x.lend(0, 1, 8), false);
        Check.due("it has none", x.lend(1, 0, 1), false);
        Check.due("all that it has", x.lend(0, 1, 7), true);
        Check.due("by whom", x.party(0, 0), 0);
        Check.due("to whom", x.party(1, 0), 7);
        Check.due("it has none", x.lend(0, 2, 1), false);
        Check.due("back", x.lend(1, 0, 7), true);
        Check.due("the only one", x.lend(2, 1, 1), true);
        Check.due("not that", x.lend(2, 1, 1), false);
        Check.due("seats of all", x.count(7), 8);
        Check.due("deeds", x.count(11), 3);
    }

    // "to another one (99 at most there)"
    private static void lendNinetyNine() {
        HalfShop x = Check.shop("party p seats 40;party q seats 40;party r seats 40;");
        x.lend(0, 1, 20);
        x.lend(0, 1, 20);
        x.lend(2, 1, 18);
        Check.due("98", x.party(1, 0), 98);
        Check.due("100", x.lend(2, 1, 2), false);
        Check.due("still 98", x.party(1, 0), 98);
        Check.due("99", x.lend(2, 1, 1), true);
        Check.due("99", x.party(1, 0), 99);
        Check.due("100", x.lend(2, 1, 1), false);
        Check.due("99 still", x.party(1, 0), 99);
        Check.due("21 still", x.party(2, 0), 21);
        Check.due("deeds", x.count(11), 4);
        Check.due("some of the 99", x.lend(1, 0, 20), true);
        Check.due("seats of all", x.count(7), 120);
    }

    // "LEND (1 to 20): .. false: others, the same"
    private static void lendOneToTwenty() {
        HalfShop x = Check.shop("party p seats 40;party q seats 40;party r seats 0;");
        int[][] others = {{0, 1, 0}, {0, 1, 21}, {0, 1, -1}, {0, 1, Integer.MIN_VALUE}, {0, 1, Integer.MAX_VALUE},
            {0, 0, 1}, {1, 1, 20}, {-1, 0, 1}, {0, -1, 1}, {3, 0, 1}, {0, 3, 1}, {5, 0, 1}, {0, 5, 1},
            {Integer.MIN_VALUE, 0, 1}, {0, Integer.MAX_VALUE, 1}};
        for (int[] o : others) {
            Check.due("lend " + o[0] + " " + o[1] + " " + o[2], x.lend(o[0], o[1], o[2]), false);
            Check.due("all stays", x.party(0, 0) == 40 && x.party(1, 0) == 40 && x.party(2, 0) == 0, true);
            Check.due("nothing can be undone", x.count(11), 0);
        }
        Check.due("1", x.lend(0, 2, 1), true);
        Check.due("20", x.lend(1, 2, 20), true);
        Check.due("seats", x.party(2, 0), 21);
    }

    private static void dueWeek(String kind, int whole, int done, String works, int then, int beyond) {
        HalfShop x = Check.shop("ware a " + kind + " whole " + whole + " done " + done + ";fine 3;works " + works + ";");
        Check.due("fined of a " + kind + " of " + whole + ", " + done + " by " + works, x.week(), 3 * beyond);
        Check.due("done", x.ware(0, 2), then);
        Check.due("fines", x.count(4), 3 * beyond);
    }

    private static void plainWeek() {
        dueWeek("plain", 20, 6, "4", 10, 0);
        dueWeek("plain", 20, 7, "4", 10, 1);
        dueWeek("plain", 20, 10, "4", 10, 4);
        dueWeek("plain", 20, 10, "0", 10, 0);
        dueWeek("plain", 2, 0, "9", 1, 8);
        dueWeek("plain", 60, 0, "9", 9, 0);
    }

    // "a bridge by that from both ends: twice"
    private static void bridgeWeek() {
        dueWeek("bridge", 20, 2, "4", 10, 0);
        dueWeek("bridge", 20, 3, "4", 10, 1);
        dueWeek("bridge", 20, 7, "4", 10, 5);
        dueWeek("bridge", 20, 9, "1", 10, 1);
        dueWeek("bridge", 20, 8, "1", 10, 0);
        dueWeek("bridge", 20, 10, "9", 10, 18);
        dueWeek("bridge", 20, 10, "0", 10, 0);
        dueWeek("bridge", 60, 0, "9", 18, 0);
        // By what is done before either end is worked at.
        dueWeek("bridge", 60, 1, "so", 3, 0);
        dueWeek("bridge", 60, 28, "half-so", 30, 2);
    }

    // "a letter by half of what lacks to its HALF, up, at most"
    private static void letterWeek() {
        int[][] lacks = {{0, 0}, {1, 1}, {2, 1}, {3, 2}, {4, 2}, {5, 3}, {16, 8}, {17, 9}, {18, 9}, {19, 9}, {30, 9}};
        for (int[] l : lacks) {
            dueWeek("letter", 60, 30 - l[0], "9", 30 - l[0] + l[1], 0);
        }
        dueWeek("letter", 60, 20, "4", 24, 0);
        dueWeek("letter", 60, 20, "5", 25, 0);
        dueWeek("letter", 60, 20, "6", 25, 0);
        dueWeek("letter", 60, 29, "0", 29, 0);
        dueWeek("letter", 2, 0, "9", 1, 0);
        dueWeek("letter", 3, 1, "9", 1, 0);
    }

    // "a clock in every other week, from the first one on"
    private static void clockWeek() {
        HalfShop x = Check.shop("ware a clock whole 20 done 8;fine 3;works 1;");
        int[] done = {9, 9, 10, 10, 10, 10};
        int[] fined = {0, 0, 0, 0, 3, 0};
        for (int week = 0; week < 6; week++) {
            Check.due("fined in week " + week, x.week(), fined[week]);
            Check.due("done in week " + week, x.ware(0, 2), done[week]);
        }
        Check.due("undo", x.undo(), true);
        Check.due("undo", x.undo(), true);
        Check.due("week 4 once more", x.week(), 3);
        Check.due("week 5 once more", x.week(), 0);
    }

    // "each WARE, by numbers, .. It is the next week."
    private static void weekByNumbers() {
        HalfShop x = Check.shop("ware a plain whole 2 done 1;ware b bridge whole 2 done 1;ware c letter whole 2 done 1;"
            + "ware d clock whole 2 done 1;ware e plain whole 2 done 0;ware f plain whole 60 done 0;fine 5;works date+1;");
        Check.due("week 0", x.week(), 5 * (1 + 2 + 1));
        Check.due("week 1", x.week(), 5 * (2 + 4 + 2));
        Check.due("week", x.count(3), 2);
        Check.due("fines of all", x.count(4), 60);
        Check.due("done of the last", x.ware(5, 2), 3);
        HalfShop empty = new HalfShop();
        for (int week = 1; week <= 20; week++) {
            Check.due("a week of nothing", empty.week(), 0);
            Check.due("is a week", empty.count(3), week);
        }
    }

    // "UNDO: all of these, the last 16, one by one."
    private static void sixteenUndone() {
        for (int deeds : new int[] {0, 1, 15, 16, 17, 18, 33}) {
            HalfShop x = Check.shop("ware a plain whole 60 done 0;");
            for (int i = 0; i < deeds; i++) {
                x.week();
            }
            int can = Math.min(16, deeds);
            Check.due("of " + deeds, x.count(11), can);
            for (int i = 1; i <= can; i++) {
                Check.due("undo " + i, x.undo(), true);
                Check.due("left", x.count(11), can - i);
                Check.due("week", x.count(3), deeds - i);
                Check.due("done", x.ware(0, 2), Math.min(30, deeds - i));
            }
            Check.due("no more", x.undo(), false);
            Check.due("all stays", x.count(3), deeds - can);
            Check.due("none left", x.count(11), 0);
        }
    }

    private static void undoneAroundTheRing() {
        HalfShop x = Check.shop("ware a plain whole 60 done 0;");
        for (int i = 0; i < 10; i++) {
            x.work(0, 1);
        }
        for (int i = 0; i < 5; i++) {
            x.undo();
        }
        Check.due("done", x.ware(0, 2), 5);
        for (int i = 0; i < 11; i++) {
            x.work(0, 2);
        }
        Check.due("sixteen", x.count(11), 16);
        x.stop(0, 1);
        Check.due("sixteen still", x.count(11), 16);
        Check.due("done", x.ware(0, 2), 26);
        Check.due("undo", x.undo(), true);
        for (int done = 27; done >= 7; done -= 2) {
            Check.due("done", x.ware(0, 2), done);
            Check.due("undo", x.undo(), true);
        }
        for (int done = 5; done >= 1; done--) {
            Check.due("done", x.ware(0, 2), done);
            Check.due("undo", x.undo(), done > 1);
        }
        Check.due("the first one is out of reach", x.ware(0, 2), 1);
    }

    private static void undoneOneByOne() {
        HalfShop x = Check.shop("ware a plain whole 20 done 9;ware b plain whole 20 done 10;party p seats 5;party q seats 0;"
            + "fine 3;");
        String[] seen = new String[7];
        seen[0] = Check.view(x);
        x.work(0, 3);
        seen[1] = Check.view(x);
        x.join(0, 1);
        seen[2] = Check.view(x);
        x.lend(0, 1, 5);
        seen[3] = Check.view(x);
        x.week();
        seen[4] = Check.view(x);
        x.stop(1, 20);
        for (int i = 4; i >= 0; i--) {
            Check.due("undo to " + i, x.undo(), true);
            Check.due("as it was at " + i, Check.view(x).equals(seen[i]), true);
        }
        Check.due("no more", x.undo(), false);
        Check.due("all stays", Check.view(x).equals(seen[0]), true);
    }

    private static void dueVotes(int to, int against, int others, int standing) {
        HalfShop x = Check.shop("ware a plain whole 9 done 0;party p seats " + to + ";party q seats " + against
            + ";party r seats " + others + ";for p a;for r a;");
        Check.due("votes", x.ware(0, 4), to + others);
        Check.due("standing " + to + " and " + others + " to " + against, x.ware(0, 5), standing);
    }

    // "CARRIED if they are more than half of all seats, HALVED if just half of them (of seats above 0), else lost"
    private static void votes() {
        dueVotes(10, 9, 0, 2);
        dueVotes(10, 10, 0, 1);
        dueVotes(10, 11, 0, 0);
        dueVotes(10, 12, 1, 0);
        dueVotes(10, 11, 1, 1);
        dueVotes(10, 10, 1, 2);
        dueVotes(40, 40, 40, 2);
        dueVotes(0, 1, 0, 0);
        dueVotes(0, 0, 1, 2);
        dueVotes(1, 1, 0, 1);
    }

    private static void seatsOfNobody() {
        dueVotes(0, 0, 0, 0);
        HalfShop x = Check.shop("ware a plain whole 9 done 0;");
        Check.due("without parties", x.ware(0, 4), 0);
        Check.due("lost", x.ware(0, 5), 0);
        HalfShop y = Check.shop("ware a plain whole 9 done 0;party p seats 2;party q seats 0;for q a;");
        Check.due("lost", y.ware(0, 5), 0);
        y.lend(0, 1, 1);
        Check.due("halved", y.ware(0, 5), 1);
        y.lend(0, 1, 1);
        Check.due("carried", y.ware(0, 5), 2);
        y.undo();
        Check.due("halved", y.ware(0, 5), 1);
    }

    // "NONE: others" of ware and party
    private static void wareAndPartyWhat() {
        HalfShop x = Check.shop("ware a bridge whole 60 done 7;ware b clock whole 20 done 1;party p seats 4;party q seats 3;"
            + "for p a;for p b;for q b;");
        int[][] wares = {{1, 60, 7, 30, 4, 2}, {3, 20, 1, 10, 7, 2}};
        int[][] parties = {{4, 3}, {3, 2}};
        for (int i = 0; i < 2; i++) {
            for (int what = 0; what <= 5; what++) {
                Check.due("ware(" + i + ", " + what + ")", x.ware(i, what), wares[i][what]);
            }
            Check.due("party(" + i + ", 0)", x.party(i, 0), parties[i][0]);
            Check.due("party(" + i + ", 1)", x.party(i, 1), parties[i][1]);
            for (int what : new int[] {-1, 6, 7, Integer.MIN_VALUE, Integer.MAX_VALUE}) {
                Check.due("ware(" + i + ", " + what + ")", x.ware(i, what), -1);
                Check.due("party(" + i + ", " + what + ")", x.party(i, what), -1);
            }
            Check.due("party(" + i + ", 2)", x.party(i, 2), -1);
        }
        for (int none : new int[] {-1, 2, 5, 6, Integer.MIN_VALUE, Integer.MAX_VALUE}) {
            for (int what = 0; what <= 5; what++) {
                Check.due("ware(" + none + ", " + what + ")", x.ware(none, what), -1);
                Check.due("party(" + none + ", " + what + ")", x.party(none, what), -1);
            }
        }
    }

    // "NONE for another what."
    private static void countWhat() {
        HalfShop x = Check.shop("ware a plain whole 6 done 3;ware b plain whole 6 done 3;ware c clock whole 9 done 1;"
            + "party p seats 4;party q seats 3;fine 5;");
        x.join(0, 1);
        x.week();
        x.work(1, 3);
        x.say(3, true);
        x.say(4, true);
        Check.term(x, "week;week;week;");
        Check.put(x, "fine");
        int[] counts = {3, 2, 5, 1, 55, 1 + 3 + 2, 2, 7, 1, 3, 2, 3, 4};
        for (int what = 0; what < counts.length; what++) {
            Check.due("count(" + what + ")", x.count(what), counts[what]);
        }
        for (int what : new int[] {-1, 13, 14, Integer.MIN_VALUE, Integer.MAX_VALUE}) {
            Check.due("count(" + what + ")", x.count(what), -1);
        }
        x.work(2, 1);
        x.work(2, 1);
        Check.due("half done as bits", x.count(6), 2 + 4);
    }
}
