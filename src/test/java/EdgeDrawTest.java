/** Promises 33 to 35 at their edges: odd strikes, a stair at rest, terms by draws. */
public final class EdgeDrawTest {
    private static final int[] FAR = {Integer.MIN_VALUE, Integer.MAX_VALUE};

    public static void main(String[] args) {
        chanceOfWeeks();
        chanceByOdds();
        chanceIsTheNextWeekThough();
        chanceOfOneWare();
        chanceLimits();
        stakes();
        whichRest();
        restsByKind();
        stopsByDraws();
        worksByDraws();
        joinsByDraws();
        nothingByDraws();
        drawsGoOn();
        drawsThenTheWeek();
        drawsFromNowOn();
        drawsLimits();
        drawsWithoutWares();
        Check.end();
    }

    private static HalfShop half() {
        return Check.shop("ware a plain whole 4 done 2;ware b plain whole 4 done 1;ware c letter whole 4 done 2;");
    }

    // "each of so many (1 to 6) WEEKS nobody works by odds of ten"
    private static void chanceOfWeeks() {
        HalfShop x = half();
        // Fined unless nobody works in any of them: 1 - 0.3 to their power.
        int[] due = {700000, 910000, 973000, 991900, 997570, 999271};
        for (int weeks = 1; weeks <= 6; weeks++) {
            Check.due("chance(0, " + weeks + ", 3)", x.chance(0, weeks, 3), due[weeks - 1]);
        }
        // One week more is needed: in at least two of them.
        int[] two = {0, 490000, 784000, 916300, 969220, 989065};
        for (int weeks = 1; weeks <= 6; weeks++) {
            Check.due("chance(1, " + weeks + ", 3)", x.chance(1, weeks, 3), two[weeks - 1]);
        }
        Check.due("a letter is never fined", x.chance(2, 6, 0), 0);
    }

    // "by odds (0 to 10)"
    private static void chanceByOdds() {
        HalfShop x = half();
        for (int odds = 0; odds <= 10; odds++) {
            Check.due("one week, odds " + odds, x.chance(0, 1, odds), (10 - odds) * 100000);
            int idle = odds * odds * odds * odds * odds * odds;
            Check.due("six weeks, odds " + odds, x.chance(0, 6, odds), 1000000 - idle);
        }
        Check.due("surely not yet", x.chance(1, 1, 0), 0);
        Check.due("surely", x.chance(1, 2, 0), 1000000);
        Check.due("surely not", x.chance(1, 2, 10), 0);
        Check.due("one of a million", x.chance(0, 6, 9), 1000000 - 531441);
    }

    // "(it is the next week, though)"
    private static void chanceIsTheNextWeekThough() {
        HalfShop x = Check.shop("ware a plain whole 4 done 2;ware b clock whole 4 done 2;works date=3;");
        Check.due("only in week 3", x.chance(0, 3, 4), 0);
        Check.due("only in week 3", x.chance(0, 4, 4), 600000);
        Check.due("only in week 3", x.chance(0, 6, 4), 600000);
        Check.due("a clock stands in week 3", x.chance(1, 6, 0), 0);
        HalfShop y = Check.shop("ware a clock whole 4 done 2;");
        Check.due("week 0", y.chance(0, 1, 4), 600000);
        Check.due("weeks 0 and 1", y.chance(0, 2, 4), 600000);
        Check.due("weeks 0 to 2", y.chance(0, 3, 4), 840000);
        y.week();
        Check.due("week 1", y.chance(0, 1, 4), 0);
        Check.due("weeks 1 and 2", y.chance(0, 2, 4), 600000);
    }

    private static void chanceOfOneWare() {
        HalfShop x = Check.shop("ware a plain whole 4 done 0;ware b plain whole 4 done 2;works so=2;");
        Check.due("of it, not of the other", x.chance(0, 6, 0), 0);
        Check.due("of it", x.chance(1, 1, 5), 500000);
        HalfShop bridge = Check.shop("ware a bridge whole 20 done 9;ware b bridge whole 20 done 8;works 1;");
        Check.due("one beyond", bridge.chance(0, 1, 2), 800000);
        Check.due("just half", bridge.chance(1, 1, 2), 0);
        Check.due("then beyond", bridge.chance(1, 2, 2), 640000);
    }

    private static void chanceLimits() {
        HalfShop x = half();
        for (int ware : new int[] {-1, 3, 6, FAR[0], FAR[1]}) {
            Check.due("ware " + ware, x.chance(ware, 1, 0), -1);
        }
        for (int weeks : new int[] {0, -1, 7, 8, FAR[0], FAR[1]}) {
            Check.due("weeks " + weeks, x.chance(0, weeks, 0), -1);
        }
        for (int odds : new int[] {-1, 11, 12, FAR[0], FAR[1]}) {
            Check.due("odds " + odds, x.chance(0, 1, odds), -1);
        }
        Check.due("nothing is done by it", x.count(3) + x.count(4) + x.count(11), 0);
    }

    // "loses so much (0 to 9) .. gets so much (0 to 9), the other one so much (0 to 9)"; "NoSuchElementException: others"
    private static void stakes() {
        HalfShop x = new HalfShop();
        for (int much : new int[] {0, 9}) {
            Check.due("lose " + much, x.rests(much, 1, 1, -1), 2);
            Check.due("goes " + much, x.rests(1, much, 1, -1), much == 0 ? 3 : 2);
            Check.due("stays " + much, x.rests(1, 1, much, -1), 2);
        }
        for (int much : new int[] {-1, 10, FAR[0], FAR[1]}) {
            for (int what : new int[] {-1, 0, 1}) {
                Check.dueNoSuch(x, much, 1, 1, what);
                Check.dueNoSuch(x, 1, much, 1, what);
                Check.dueNoSuch(x, 1, 1, much, what);
            }
        }
        Check.due("all stays", x.rests(1, 1, 1, -1), 2);
    }

    // "what NONE: how many; i: the i-th .. NoSuchElementException: .. none such"
    private static void whichRest() {
        HalfShop x = new HalfShop();
        int[][] stairs = {{1, 1, 1, 1, 2}, {1, 0, 1, 0, 1, 2}, {0, 1, 0, 1, 2, 3}, {0, 0, 0, 0, 1, 2, 3}};
        for (int[] s : stairs) {
            int many = s.length - 3;
            Check.due("how many", x.rests(s[0], s[1], s[2], -1), many);
            for (int i = 0; i < many; i++) {
                Check.due("the " + i + "-th", x.rests(s[0], s[1], s[2], i), s[3 + i]);
            }
            for (int none : new int[] {-2, many, many + 1, 4, FAR[0], FAR[1]}) {
                Check.dueNoSuch(x, s[0], s[1], s[2], none);
            }
        }
    }

    // "by which neither would get more by the other": as much is no more.
    private static void restsByKind() {
        HalfShop x = new HalfShop();
        Check.due("both stay, if going on gets nothing", x.rests(9, 0, 9, 0), 0);
        Check.due("not, if it gets one", x.rests(9, 1, 9, 0), 1);
        Check.due("both go on, if it costs nothing to", x.rests(0, 9, 0, 2), 3);
        Check.dueNoSuch(x, 1, 9, 0, 2);
        Check.dueNoSuch(x, 0, 9, 1, 2);
    }

    private static void dueTerms(String call, HalfShop x, int seed, int weeks, int fines, int joins, int done) {
        Check.due(call + ": fines", x.terms(seed, weeks, 0), fines);
        Check.due(call + ": joined", x.terms(seed, weeks, 1), joins);
        Check.due(call + ": done", x.terms(seed, weeks, 2), done);
    }

    private static HalfShop two() {
        return Check.shop("ware a plain whole 60 done 30;ware b plain whole 60 done 25;fine 3;works 0;");
    }

    // "0: STOP by a DRAW below 20 and 1"
    private static void stopsByDraws() {
        // Seed 373 draws 22000, 27335, 24120; 51: 6785, 6720, 16400; 9: 20472, 11155, 11119; 780: 26679, 23370, 9759.
        dueTerms("the first by 1", two(), 373, 1, 0, 0, 54);
        dueTerms("the second by 1", two(), 51, 1, 0, 0, 54);
        dueTerms("the first by 20", two(), 9, 1, 0, 0, 35);
        dueTerms("the second by 20", two(), 780, 1, 0, 0, 35);
        HalfShop little = Check.shop("ware a plain whole 60 done 3;ware b plain whole 60 done 25;works 0;");
        dueTerms("0 at least", little, 9, 1, 0, 0, 25);
    }

    // "1: WORK by such a one"
    private static void worksByDraws() {
        // Seed 159 draws 23082, 14041, 29980; 173: 29443, 23486, 31740; 117: 4002, 18476, 24699; 16: 7269, 32261, 11999.
        dueTerms("the first by 1", two(), 159, 1, 3, 0, 55);
        dueTerms("the second by 1", two(), 173, 1, 0, 0, 56);
        dueTerms("the first by 20", two(), 117, 1, 60, 0, 55);
        dueTerms("the second by 20", two(), 16, 1, 45, 0, 60);
    }

    // "2: JOIN with a DRAW below WARES, if it can be"
    private static void joinsByDraws() {
        HalfShop x = Check.shop("ware a plain whole 60 done 30;ware b plain whole 60 done 30;fine 3;works 0;");
        // Seed 2 draws 908, 22817, 10239; 5: 18655, 8457, 10616; 14: 6360, 30912, 11748; 3: 17747, 7107, 10365.
        dueTerms("0 with 1", x, 2, 1, 30, 1, 0);
        dueTerms("1 with 0", x, 5, 1, 30, 1, 0);
        dueTerms("0 with 0", x, 14, 1, 0, 0, 60);
        dueTerms("1 with 1", x, 3, 1, 0, 0, 60);
        dueTerms("one is not half", two(), 2, 1, 0, 0, 55);
        HalfShop other = Check.shop("ware a plain whole 60 done 30;ware b plain whole 59 done 30;works 0;");
        dueTerms("another whole", other, 2, 1, 0, 0, 59);
        HalfShop one = Check.shop("ware a plain whole 60 done 30;works 0;");
        dueTerms("with itself", one, 2, 1, 0, 0, 30);
        Check.due("nothing is joined by it", x.count(8), 0);
    }

    private static void nothingByDraws() {
        // Seed 0 draws 0, 21468: 3; 8: 3634, 26864: 4.
        dueTerms("3", two(), 0, 1, 0, 0, 55);
        dueTerms("4", two(), 8, 1, 0, 0, 55);
    }

    // "g becomes ..": each draw goes on from the one before; 3 and 4 take no third one, a JOIN that can't be does.
    private static void drawsGoOn() {
        // Seed 0: 0, 21468 (3) | 9988, 22117, 3498: ware 0, 2, with 0 | 16927, 16045, 19741: ware 1, 0, by 2.
        dueTerms("two weeks", two(), 0, 2, 0, 0, 55);
        dueTerms("three weeks", two(), 0, 3, 0, 0, 53);
        // Seed 9999: 4241, 233 (3) | 22049, 17954 (4) | 28191, 15727, 30323: ware 1, 2, with 1 | 18459, 14156, ..: ware 1, 1.
        dueTerms("three weeks of 9999", two(), 9999, 3, 0, 0, 55);
        // Seed 1: 16838, 5758 (3) | 10113, 17515, 31051: ware 1, 0, by 12 | 5627, 23010, 7419: ware 1, 0, by 20.
        dueTerms("one week of 1", two(), 1, 1, 0, 0, 55);
        dueTerms("two weeks of 1", two(), 1, 2, 0, 0, 43);
        dueTerms("three weeks of 1", two(), 1, 3, 0, 0, 30);
    }

    // "then the WEEK"
    private static void drawsThenTheWeek() {
        HalfShop x = Check.shop("ware a plain whole 60 done 30;ware b plain whole 60 done 30;fine 3;works 2;");
        dueTerms("joined, then worked at", x, 2, 1, 30, 1, 4);
        dueTerms("stopped, then worked at", x, 9, 1, 6, 0, 10 + 2 + 30);
        HalfShop dates = Check.shop("ware a plain whole 60 done 0;ware b clock whole 60 done 0;works date*3+1;");
        // Seed 8: 3634, 26864 (4) | 10994, 18073 (3): the weeks alone.
        Check.due("week 0", dates.terms(8, 1, 2), 2);
        Check.due("weeks 0 and 1", dates.terms(8, 2, 2), 2 + 4);
    }

    // "from now on (all is as ahead then)"
    private static void drawsFromNowOn() {
        HalfShop x = Check.shop("ware a plain whole 60 done 30;ware b plain whole 60 done 30;fine 3;works date;");
        x.work(0, 5);
        x.join(0, 1);
        x.week();
        String before = Check.view(x);
        Check.due("fines by these", x.terms(0, 1, 0), 0);
        Check.due("joined by these", x.terms(0, 1, 1), 0);
        Check.due("done, by week 1", x.terms(0, 1, 2), 2);
        for (int what = 0; what <= 2; what++) {
            Check.due("99 weeks", x.terms(77, 99, what) >= 0, true);
        }
        Check.due("all is as ahead", Check.view(x).equals(before), true);
        Check.due("what can be undone", x.count(11), 3);
        Check.due("the same again", x.terms(0, 1, 2), 2);
    }

    // "SEED (0 to 9999)", "WEEKS (1 to 99)", "NONE: others"
    private static void drawsLimits() {
        HalfShop x = two();
        for (int what = 0; what <= 2; what++) {
            Check.due("seed 0", x.terms(0, 1, what), what == 2 ? 55 : 0);
            Check.due("seed 9999", x.terms(9999, 1, what), what == 2 ? 55 : 0);
            Check.due("99 weeks", x.terms(5, 99, what) >= 0, true);
            for (int seed : new int[] {-1, 10000, FAR[0], FAR[1]}) {
                Check.due("seed " + seed, x.terms(seed, 1, what), -1);
            }
            for (int weeks : new int[] {0, -1, 100, FAR[0], FAR[1]}) {
                Check.due("weeks " + weeks, x.terms(0, weeks, what), -1);
            }
        }
        for (int what : new int[] {-1, 3, FAR[0], FAR[1]}) {
            Check.due("what " + what, x.terms(0, 1, what), -1);
        }
        HalfShop dates = Check.shop("ware a letter whole 60 done 0;works (date=98)*9;");
        HalfShop sooner = Check.shop("ware a letter whole 60 done 0;works (date=99)*9;");
        // Only the 99th week, of number 98, adds anything that no draw does.
        Check.due("the 99th week is one of them", dates.terms(5, 99, 2) > sooner.terms(5, 99, 2), true);
    }

    // "each, if there are WARES": one is enough.
    private static void drawsWithoutWares() {
        HalfShop one = Check.shop("ware a plain whole 60 done 25;fine 3;works 0;");
        dueTerms("one ware, stopped by 20", one, 9, 1, 0, 0, 5);
        dueTerms("one ware, worked at by 20", one, 16, 1, 45, 0, 30);
        HalfShop x = Check.shop("party p seats 3;");
        for (int what = 0; what <= 2; what++) {
            Check.due("nothing", x.terms(9999, 99, what), 0);
        }
        Check.due("the week stays", x.count(3), 0);
    }
}
