/** The law of works at its edges: what may stand where, how deep, what comes of it, 0 to 9. */
public final class EdgeLawTest {
    public static void main(String[] args) {
        fourDeep();
        fiveDeep();
        besideOneAnother();
        oneComparison();
        whatCannotStand();
        everyFactAndNoOther();
        oneOrNothing();
        fromTheLeft();
        wrapAround();
        cutAtBothEnds();
        untold();
        longest();
        behindOtherLaws();
        Check.end();
    }

    /** The openings of so many nots and brackets, by bits; a bit that is set is a bracket. */
    private static String opened(int many, int bits) {
        StringBuilder s = new StringBuilder("works ");
        for (int i = 0; i < many; i++) {
            s.append((bits >> i & 1) == 1 ? "(" : "not ");
        }
        return s.toString();
    }

    private static String closed(int bits) {
        return "))))))".substring(0, Integer.bitCount(bits));
    }

    // "no PART lies within 5 of not and ( )": within 4 it may.
    private static void fourDeep() {
        for (int bits = 0; bits < 16; bits++) {
            Check.dueRepublic(opened(4, bits) + "7" + closed(bits) + ";", 0, 0);
            Check.dueRepublic(opened(4, bits) + "so" + closed(bits) + ";", 0, 0);
            int nots = 4 - Integer.bitCount(bits);
            HalfShop x = Check.shop("ware a plain whole 60 done 0;" + opened(4, bits) + "7" + closed(bits) + ";");
            x.week();
            Check.due("seven within " + nots + " nots", x.ware(0, 2), nots == 0 ? 7 : 1 - nots % 2);
        }
    }

    // "5 one too many: .. not, or a PART, within 5 others"
    private static void fiveDeep() {
        for (int bits = 0; bits < 32; bits++) {
            String open = opened(5, bits);
            Check.dueRepublic(open + "7" + closed(bits) + ";", 5, open.length());
            Check.dueRepublic(open + "date" + closed(bits) + ";", 5, open.length());
            Check.dueRepublic(open + "not 7" + closed(bits) + ";", 5, open.length());
            Check.dueRepublic(open + "(7)" + closed(bits) + ";", 5, open.length());
            Check.dueRepublic(open + "7", 5, open.length());
            Check.dueRepublic(open + ";", 1, open.length());
            Check.dueRepublic(open, 1, open.length());
            Check.dueRepublic(open + "and", 1, open.length());
            Check.dueRepublic(open + "name", 1, open.length());
        }
    }

    private static void besideOneAnother() {
        Check.dueRepublic("works ((((1))))+((((1))))*((((1))));", 0, 0);
        Check.dueRepublic("works not not not not 1 and not not not not 1;", 0, 0);
        Check.dueRepublic("works not not not not 1+not not not not not 1;", 5, 44);
        Check.dueRepublic("works ((((1+2)*3)<4)and 5)or 6;", 0, 0);
        Check.dueRepublic("works (1+(2+(3+(4+5))));", 0, 0);
        Check.dueRepublic("works (1+(2+(3+(4+(5)))));", 5, 19);
        // What is looser has no depth of its own.
        Check.dueRepublic("works 1 and 1 and 1 and 1 and 1 and 1<1+1+1+1+1+1*1*1*1*1*1*1;", 0, 0);
    }

    // "TEST: SUM, or SUM < SUM, or SUM = SUM"
    private static void oneComparison() {
        for (String first : new String[] {"<", "="}) {
            for (String second : new String[] {"<", "="}) {
                Check.dueRepublic("works 1" + first + "2" + second + "3;", 1, 9);
                Check.dueRepublic("works (1" + first + "2)" + second + "3;", 0, 0);
                Check.dueRepublic("works 1" + first + "2 and 2" + second + "3;", 0, 0);
            }
        }
        Check.dueRepublic("works <3;", 1, 6);
        Check.dueRepublic("works 3<;", 1, 8);
        Check.dueRepublic("works 3==3;", 1, 8);
        Check.dueRepublic("works 3<=3;", 1, 8);
    }

    private static void whatCannotStand() {
        Check.dueRepublic("works ;", 1, 6);
        Check.dueRepublic("works", 1, 5);
        Check.dueRepublic("works ();", 1, 7);
        Check.dueRepublic("works (3;", 1, 8);
        Check.dueRepublic("works 3);", 1, 7);
        Check.dueRepublic("works (3));", 1, 9);
        Check.dueRepublic("works -3;", 1, 6);
        Check.dueRepublic("works +3;", 1, 6);
        Check.dueRepublic("works 3+-3;", 1, 8);
        Check.dueRepublic("works 3 3;", 1, 8);
        Check.dueRepublic("works 3(3);", 1, 7);
        Check.dueRepublic("works 3 not 3;", 1, 8);
        Check.dueRepublic("works not;", 1, 9);
        Check.dueRepublic("works not and 3;", 1, 10);
        Check.dueRepublic("works and 3;", 1, 6);
        Check.dueRepublic("works or;", 1, 6);
        Check.dueRepublic("works 3 and or 3;", 1, 12);
        Check.dueRepublic("works 3*;", 1, 8);
    }

    // "Facts: so .., half .., votes .., date .."; no other word is a PART, not even a name that was told.
    private static void everyFactAndNoOther() {
        String told = "ware aa plain whole 18 done 4;party pp seats 3;for pp aa;works ";
        String[] facts = {"so", "half-4", "votes", "date+2"};
        int[] much = {4, 5, 3, 2};
        for (int i = 0; i < facts.length; i++) {
            HalfShop x = Check.shop(told + facts[i] + ";");
            x.week();
            Check.due("by " + facts[i], x.ware(0, 2), 4 + much[i]);
        }
        for (String none : new String[] {"aa", "pp", "done", "seats", "whole", "week", "fine", "s", "dates", "halves"}) {
            Check.dueRepublic(told + none + ";", 1, told.length());
        }
    }

    private static void dueWorks(String law, int much) {
        HalfShop x = Check.shop("ware a plain whole 60 done 0;works " + law + ";");
        x.week();
        Check.due("works " + law, x.ware(0, 2), much);
    }

    // "Of not, and, or, < and = comes 1 or 0; what is not 0 is so"
    private static void oneOrNothing() {
        dueWorks("not 0", 1);
        dueWorks("not 1", 0);
        dueWorks("not 2", 0);
        dueWorks("not (0-1)", 0);
        dueWorks("5 and 7", 1);
        dueWorks("5 and 0", 0);
        dueWorks("0 and 5", 0);
        dueWorks("0 and 0", 0);
        dueWorks("(0-1) and 2", 1);
        dueWorks("5 or 7", 1);
        dueWorks("5 or 0", 1);
        dueWorks("0 or 5", 1);
        dueWorks("0 or 0", 0);
        dueWorks("0 or 0-1", 1);
        dueWorks("3<4", 1);
        dueWorks("4<4", 0);
        dueWorks("5<4", 0);
        dueWorks("0-1<0", 1);
        dueWorks("4=4", 1);
        dueWorks("4=5", 0);
        dueWorks("(3<4)+(4=4)+not 0+(1 and 1)+(0 or 1)", 5);
    }

    // "TEST { and TEST or or TEST }, from the left"; sums and products from the left, products first.
    private static void fromTheLeft() {
        dueWorks("1 or 1 and 0", 0);
        dueWorks("0 and 1 or 1", 1);
        dueWorks("1 or (1 and 0)", 1);
        dueWorks("0 and (1 or 1)", 0);
        dueWorks("8-3-2", 3);
        dueWorks("8-(3-2)", 7);
        dueWorks("8-3+2", 7);
        dueWorks("1+2*3", 7);
        dueWorks("2*3+1", 7);
        dueWorks("(1+2)*3", 9);
        dueWorks("9-2*3", 3);
        dueWorks("not 0*3", 3);
        dueWorks("not (0*3)", 1);
        dueWorks("not 3=0", 1);
        dueWorks("not (3=0)", 1);
        dueWorks("not 0<1", 0);
        dueWorks("not (0<1)", 0);
        dueWorks("2<1+2", 1);
        dueWorks("3=1+1*2", 1);
    }

    // "ints wrap": 9999 * 9999 = 99,980,001; 21 times that is the last below 2 to the power of 31, 43 the first beyond 32.
    private static void wrapAround() {
        dueWorks("9999*9999*21", 9);
        dueWorks("9999*9999*22", 0);
        dueWorks("9999*9999*22<0", 1);
        dueWorks("9999*9999*43", 9);
        dueWorks("9999*9999*42", 0);
        dueWorks("9999*9999*43=9999*417+3164", 1);
        dueWorks("9999*9999*21+9999*9999", 0);
        dueWorks("0-9999*9999*21", 0);
        dueWorks("0-9999*9999*21-9999*9999", 9);
        // 8192 * 8192 * 64 is 2 to the power of 32.
        dueWorks("8192*8192*64", 0);
        dueWorks("8192*8192*64=0", 1);
        dueWorks("8192*8192*64+7", 7);
        dueWorks("8192*8192*32<0", 1);
        dueWorks("8192*8192*32-1", 9);
        dueWorks("not 8192*8192*64", 0);
        dueWorks("not (8192*8192*64)", 1);
    }

    // "WORKED at by the E of works (0 to 9)"
    private static void cutAtBothEnds() {
        dueWorks("0", 0);
        dueWorks("0-1", 0);
        dueWorks("0-9999", 0);
        dueWorks("1", 1);
        dueWorks("8", 8);
        dueWorks("9", 9);
        dueWorks("10", 9);
        dueWorks("9999", 9);
        HalfShop x = Check.shop("ware a bridge whole 60 done 0;ware b letter whole 60 done 0;ware c clock whole 60 done 0;"
            + "works 10;");
        x.week();
        Check.due("cut, then twice", x.ware(0, 2), 18);
        Check.due("a letter", x.ware(1, 2), 9);
        Check.due("a clock", x.ware(2, 2), 9);
        HalfShop y = Check.shop("ware a bridge whole 60 done 5;ware b letter whole 60 done 5;ware c clock whole 60 done 5;"
            + "works 0-3;");
        Check.due("nothing", y.week(), 0);
        Check.due("nothing is taken off", y.count(5), 15);
    }

    // "Without works: 1."
    private static void untold() {
        HalfShop x = Check.shop("ware a plain whole 60 done 0;");
        x.week();
        Check.due("works untold", x.ware(0, 2), 1);
        HalfShop y = Check.shop("ware a plain whole 60 done 0;works 5;");
        Check.due("anew without it", Check.republic(y, "ware a plain whole 60 done 0;"), 0);
        y.week();
        Check.due("works untold", y.ware(0, 2), 1);
    }

    /** As much law as the tape can hold. */
    private static void longest() {
        StringBuilder s = new StringBuilder("ware a plain whole 60 done 0;works 0");
        while (s.length() + 4 < 1000) {
            s.append("+0");
        }
        s.append("+7");
        while (s.length() < 999) {
            s.append(' ');
        }
        s.append(';');
        HalfShop x = new HalfShop();
        Check.due("1,000 signs", Check.put(x, s.toString()), 1000);
        Check.due("republic", x.republic(), 0);
        x.week();
        Check.due("the last one counts", x.ware(0, 2), 7);
    }

    /** Nothing of a longer law, told one or two republics before, is left in a shorter one. */
    private static void behindOtherLaws() {
        HalfShop x = new HalfShop();
        String[] laws = {"not 3", "not not 0", "3", "5", "not 0*7+1-1", "so", "7", "1+2+3", "4", "(date)", "not 1", "6"};
        int[] much = {0, 0, 3, 5, 7, 0, 7, 6, 4, 0, 0, 6};
        for (int i = 0; i < laws.length; i++) {
            Check.due("republic", Check.republic(x, "ware a plain whole 60 done 0;works " + laws[i] + ";"), 0);
            x.week();
            Check.due("works " + laws[i], x.ware(0, 2), much[i]);
        }
    }
}
