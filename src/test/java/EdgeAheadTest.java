/** Promises 14 to 19 at their edges: behind 0 to 60 weeks, in 1 to 60, of 1 to 60, pairs, the most for 0 to 200. */
public final class EdgeAheadTest {
    private static final int[] FAR = {-1, 2, 6, Integer.MIN_VALUE, Integer.MAX_VALUE};

    public static void main(String[] args) {
        whenNowAndNever();
        whenBySixty();
        caughtAtOnceAndNever();
        caughtBySixty();
        fromALaterWeek();
        byKind();
        joinedNow();
        joinedBySixty();
        joinedNotAtAll();
        finesOfWeeks();
        finesOfNothing();
        roundPairs();
        mostForItsWork();
        mostOfEqualOnes();
        mostLimits();
        Check.end();
    }

    private static HalfShop two(int whole, int done, int other, String works) {
        return Check.shop("ware a plain whole " + whole + " done " + done + ";ware b plain whole " + whole + " done " + other
            + ";works " + works + ";");
    }

    // "WHEN: behind how many WEEKS (0 to 60) a WARE is HALF done."
    private static void whenNowAndNever() {
        HalfShop x = two(20, 10, 9, "1");
        Check.due("now", x.when(0), 0);
        Check.due("behind one", x.when(1), 1);
        Check.due("never", two(20, 9, 0, "0").when(0), -1);
        Check.due("now, without work", two(20, 10, 0, "0").when(0), 0);
        for (int far : FAR) {
            Check.due("when(" + far + ")", x.when(far), -1);
        }
        Check.due("nothing is done by it", x.count(3) + x.count(4) + x.count(11), 0);
        Check.due("done", x.count(5), 19);
    }

    private static void whenBySixty() {
        Check.due("in the 60th", two(20, 9, 0, "date=59").when(0), 60);
        Check.due("in the 61st", two(20, 9, 0, "date=60").when(0), -1);
        Check.due("30 by every other week", Check.shop("ware a clock whole 60 done 0;").when(0), 59);
        Check.due("29 by half of them", two(60, 1, 0, "date<58 and 28<date").when(0), 58);
        Check.due("30 by the last of them", two(60, 0, 0, "29<date").when(0), 60);
        Check.due("and one too late", two(60, 0, 0, "30<date").when(0), -1);
    }

    // "CAUGHT: in how many (1 to 60) it is FINED by the first one."
    private static void caughtAtOnceAndNever() {
        HalfShop x = two(20, 10, 9, "1");
        Check.due("in the first", x.caught(0), 1);
        Check.due("in the second", x.caught(1), 2);
        Check.due("in the first, by one beyond", two(20, 9, 0, "2").caught(0), 1);
        Check.due("never", two(20, 10, 0, "0").caught(0), -1);
        Check.due("just half is not caught", two(20, 9, 0, "half-so").caught(0), -1);
        for (int far : FAR) {
            Check.due("caught(" + far + ")", x.caught(far), -1);
        }
        Check.due("nothing is fined by it", x.count(3) + x.count(4) + x.count(11), 0);
    }

    private static void caughtBySixty() {
        Check.due("in the 60th", two(20, 10, 0, "date=59").caught(0), 60);
        Check.due("in the 61st", two(20, 10, 0, "date=60").caught(0), -1);
        Check.due("half by 59, caught by 60", two(60, 0, 0, "28<date").caught(0), 60);
        Check.due("half by 60", two(60, 0, 0, "29<date").caught(0), -1);
    }

    // "(WEEKS going by from now on, nothing else being done.)"
    private static void fromALaterWeek() {
        HalfShop x = two(20, 9, 10, "date=60");
        Check.due("too late", x.when(0), -1);
        Check.due("too late", x.caught(1), -1);
        Check.due("too late", x.joined(0, 1), -1);
        Check.due("too late", x.fines(60), 0);
        x.week();
        Check.due("behind 60", x.when(0), 60);
        Check.due("in the 60th", x.caught(1), 60);
        Check.due("behind 60", x.joined(0, 1), 60);
        Check.due("in 59", x.fines(59), 0);
        Check.due("in 60", x.fines(60), 2);
        Check.due("undo", x.undo(), true);
        Check.due("too late again", x.when(0), -1);
    }

    private static void byKind() {
        HalfShop x = Check.shop("ware a bridge whole 20 done 7;ware b letter whole 20 done 7;ware c clock whole 20 done 8;"
            + "works 2;");
        int[] when = {1, 2, 1};
        int[] caught = {1, -1, 3};
        for (int i = 0; i < 3; i++) {
            Check.due("when(" + i + ")", x.when(i), when[i]);
            Check.due("caught(" + i + ")", x.caught(i), caught[i]);
        }
        x.week();
        int[] later = {0, 1, 0};
        int[] laterCaught = {1, -1, 2};
        for (int i = 0; i < 3; i++) {
            Check.due("when(" + i + ")", x.when(i), later[i]);
            Check.due("caught(" + i + ")", x.caught(i), laterCaught[i]);
        }
        HalfShop votes = Check.shop("ware a plain whole 20 done 0;party p seats 5;party q seats 2;for p a;works votes;");
        Check.due("by votes", votes.when(0), 2);
        votes.lend(0, 1, 3);
        Check.due("by less votes", votes.when(0), 5);
    }

    // "JOINED of two: behind how many (0 to 60) they could be JOINED."
    private static void joinedNow() {
        HalfShop x = two(20, 10, 10, "1");
        Check.due("now", x.joined(0, 1), 0);
        Check.due("now", x.joined(1, 0), 0);
        Check.due("nothing is joined by it", x.count(8), 0);
        Check.due("the later one", two(20, 10, 7, "1").joined(0, 1), 3);
        Check.due("the later one", two(20, 7, 10, "1").joined(0, 1), 3);
        Check.due("both later", two(20, 5, 7, "1").joined(0, 1), 5);
    }

    private static void joinedBySixty() {
        Check.due("behind 60", two(20, 9, 10, "date=59").joined(0, 1), 60);
        Check.due("behind 61", two(20, 9, 10, "date=60").joined(0, 1), -1);
        Check.due("behind 60", two(20, 10, 9, "date=59").joined(0, 1), 60);
        Check.due("behind 61", two(20, 10, 9, "date=60").joined(0, 1), -1);
        Check.due("one never", two(20, 10, 9, "0").joined(0, 1), -1);
    }

    private static void joinedNotAtAll() {
        HalfShop x = Check.shop("ware a plain whole 20 done 10;ware b plain whole 21 done 10;");
        Check.due("another whole", x.joined(0, 1), -1);
        Check.due("the same", x.joined(0, 0), -1);
        for (int far : FAR) {
            Check.due("joined(0, " + far + ")", x.joined(0, far), -1);
            Check.due("joined(" + far + ", 0)", x.joined(far, 0), -1);
            Check.due("joined(" + far + ", " + far + ")", x.joined(far, far), -1);
        }
    }

    // "FINES of so many (1 to 60) WEEKS."
    private static void finesOfWeeks() {
        HalfShop x = Check.shop("ware a plain whole 20 done 9;ware b bridge whole 20 done 10;fine 3;works 1;");
        Check.due("one week", x.fines(1), 6);
        Check.due("two weeks", x.fines(2), 15);
        Check.due("59 weeks", x.fines(59), 3 * (58 + 118));
        Check.due("60 weeks", x.fines(60), 3 * (59 + 120));
        for (int other : new int[] {0, -1, 61, 62, Integer.MIN_VALUE, Integer.MAX_VALUE}) {
            Check.due("fines(" + other + ")", x.fines(other), -1);
        }
        x.work(0, 20);
        Check.due("what was fined before is not of these", x.fines(1), 9);
        Check.due("nothing is fined by it", x.count(4), 57);
        Check.due("the week stays", x.count(3), 0);
        HalfShop most = Check.shop("ware a bridge whole 2 done 1;ware b bridge whole 2 done 1;ware c bridge whole 2 done 1;"
            + "ware d bridge whole 2 done 1;ware e bridge whole 2 done 1;ware f bridge whole 2 done 1;fine 9;works 9;");
        Check.due("the most", most.fines(60), 60 * 6 * 18 * 9);
    }

    private static void finesOfNothing() {
        HalfShop x = new HalfShop();
        Check.due("no wares", x.fines(1), 0);
        Check.due("no wares", x.fines(60), 0);
        Check.due("no wares", x.fines(61), -1);
        Check.due("a letter", Check.shop("ware a letter whole 2 done 1;works 9;").fines(60), 0);
    }

    // "ROUND: pairs that could be JOINED now."
    private static void roundPairs() {
        int[] pairs = {0, 0, 1, 3, 6, 10, 15};
        for (int many = 0; many <= 6; many++) {
            StringBuilder s = new StringBuilder();
            for (int i = 0; i < 6; i++) {
                s.append("ware ").append((char) ('a' + i)).append(" plain whole 20 done ").append(i < many ? 10 : 9).append(";");
            }
            Check.due(many + " half done", Check.shop(s.toString()).round(), pairs[many]);
        }
        HalfShop x = Check.shop("ware a plain whole 20 done 10;ware b plain whole 21 done 10;ware c plain whole 20 done 10;"
            + "ware d plain whole 21 done 10;ware e plain whole 22 done 11;");
        Check.due("two of each whole", x.round(), 2);
        x.join(0, 2);
        Check.due("one pair left", x.round(), 1);
    }

    private static void dueMost(HalfShop x, int work, int many, int much, int which) {
        Check.due("most(" + work + ", 0)", x.most(work, 0), many);
        Check.due("most(" + work + ", 1)", x.most(work, 1), much);
        Check.due("most(" + work + ", 2)", x.most(work, 2), which);
    }

    // "the most WARES that can be HALF done now, those that are so, too, by no more work than that"
    private static void mostForItsWork() {
        HalfShop x = Check.shop("ware a plain whole 20 done 3;ware b plain whole 20 done 10;ware c plain whole 20 done 5;");
        dueMost(x, 0, 1, 0, 2);
        dueMost(x, 4, 1, 0, 2);
        dueMost(x, 5, 2, 5, 6);
        dueMost(x, 6, 2, 5, 6);
        dueMost(x, 11, 2, 5, 6);
        dueMost(x, 12, 3, 12, 7);
        dueMost(x, 13, 3, 12, 7);
        dueMost(x, 200, 3, 12, 7);
        Check.due("nothing is done by it", x.count(5), 18);
        HalfShop all = Check.shop("ware a plain whole 60 done 0;ware b plain whole 60 done 0;ware c plain whole 60 done 0;"
            + "ware d plain whole 60 done 0;ware e plain whole 60 done 0;ware f plain whole 60 done 0;");
        dueMost(all, 0, 0, 0, 0);
        dueMost(all, 29, 0, 0, 0);
        dueMost(all, 30, 1, 30, 1);
        dueMost(all, 59, 1, 30, 1);
        dueMost(all, 60, 2, 60, 3);
        dueMost(all, 179, 5, 150, 31);
        dueMost(all, 180, 6, 180, 63);
        dueMost(all, 200, 6, 180, 63);
    }

    // "of equal ones by the least work; of equal ones the least set of all that are so then (bits)"
    private static void mostOfEqualOnes() {
        HalfShop x = Check.shop("ware a plain whole 20 done 4;ware b plain whole 20 done 5;ware c plain whole 40 done 15;"
            + "ware d plain whole 20 done 5;");
        dueMost(x, 4, 0, 0, 0);
        dueMost(x, 5, 1, 5, 2);
        dueMost(x, 6, 1, 5, 2);
        dueMost(x, 9, 1, 5, 2);
        dueMost(x, 10, 2, 10, 6);
        dueMost(x, 11, 2, 10, 6);
        dueMost(x, 15, 3, 15, 14);
        dueMost(x, 21, 4, 21, 15);
        x.work(3, 5);
        dueMost(x, 0, 1, 0, 8);
        dueMost(x, 5, 2, 5, 10);
    }

    // "for so much work (0 to 200)"; "NONE: others"
    private static void mostLimits() {
        HalfShop x = Check.shop("ware a plain whole 20 done 10;");
        for (int what = 0; what <= 2; what++) {
            int due = what == 1 ? 0 : 1;
            Check.due("most(0, " + what + ")", x.most(0, what), due);
            Check.due("most(200, " + what + ")", x.most(200, what), due);
            for (int work : new int[] {-1, 201, Integer.MIN_VALUE, Integer.MAX_VALUE}) {
                Check.due("most(" + work + ", " + what + ")", x.most(work, what), -1);
            }
        }
        for (int what : new int[] {-1, 3, Integer.MIN_VALUE, Integer.MAX_VALUE}) {
            Check.due("most(5, " + what + ")", x.most(5, what), -1);
        }
        dueMost(new HalfShop(), 200, 0, 0, 0);
    }
}
