/** Promises 3 and 4: the language, and what is wrong in it, first from the left. */
public final class ReadingTest {
    private static final String FOUR = "ware aa plain whole 20 done 3;ware bb plain whole 9 done 0;"
        + "party pp seats 10;party qq seats 5;";

    public static void main(String[] args) {
        tokens();
        wares();
        partiesAndCauses();
        fineAndWorks();
        expressions();
        depth();
        terms();
        afterReading();
        Check.end();
    }

    private static void tokens() {
        Check.dueRepublic("", 0, 0);
        Check.dueRepublic(" \n ", 0, 0);
        Check.dueRepublic("\nfine\n7 ; ", 0, 0);
        Check.dueRepublic("fine7;", 0, 0);
        Check.dueRepublic("fine 0007;", 0, 0);
        Check.dueRepublic("fine 00007;", 1, 5);
        Check.dueRepublic("fine 7", 1, 6);
        Check.dueRepublic("fine 7  ", 1, 8);
        Check.dueRepublic("fine", 1, 4);
        Check.dueRepublic("fine ;", 1, 5);
        Check.dueRepublic("fine 7;;", 1, 7);
        Check.dueRepublic("Fine 7;", 1, 0);
        Check.dueRepublic("finefinef", 1, 0);
        Check.dueRepublic("7", 1, 0);
        Check.dueRepublic("fine 7 ,", 1, 7);
        Check.dueRepublic("works 3and 4;", 0, 0);
        Check.dueRepublic("works 3so;", 1, 7);
        Check.dueRepublic("ware az plain whole 9 done 1;party za seats 2;for za az;", 0, 0);
        Check.dueRepublic("ware `a plain whole 9 done 1;", 1, 5);
        Check.dueRepublic("ware {a plain whole 9 done 1;", 1, 5);
        Check.dueRepublic("fine /1;", 1, 5);
        Check.dueRepublic("fine :1;", 1, 5);
        Check.dueRepublic("ware a plain whole 9 done 1;ware aa plain whole 9 done 1;ware b plain whole 9 done 1;"
            + "ware bb plain whole 9 done 1;ware ba plain whole 9 done 1;ware ab plain whole 9 done 1;"
            + "party z seats 1;party zz seats 1;party aaaaaaaa seats 1;party zzzzzzzz seats 1;"
            + "party bbbbbbbb seats 1;", 0, 0);
        Check.dueRepublic("ware eightlet plain whole 20done 3;", 0, 0);
        Check.dueRepublic("ware ninelette plain whole 20 done 3;", 1, 5);
    }

    private static void wares() {
        Check.dueRepublic("ware a plain whole 2 done 0;ware b bridge whole 60 done 30;", 0, 0);
        Check.dueRepublic("ware a plain whole 1 done 0;", 4, 19);
        Check.dueRepublic("ware a plain whole 61 done 0;", 4, 19);
        Check.dueRepublic("ware a plain whole 60 done 31;", 4, 27);
        Check.dueRepublic("ware a plain whole so done 31;", 1, 19);
        Check.dueRepublic("ware a plain done 3;", 1, 13);
        Check.dueRepublic("ware a ware whole 3 done 1;", 1, 7);
        Check.dueRepublic("ware a so whole 3 done 1;", 1, 7);
        Check.dueRepublic("ware so plain whole 3 done 1;ware half plain whole 3 done 1;"
            + "ware votes plain whole 3 done 1;party date seats 3;", 0, 0);
        String[] reserved = {"ware", "whole", "done", "party", "seats", "for", "fine", "works", "work", "stop", "join",
            "lend", "week", "plain", "bridge", "letter", "clock", "not", "and", "or"};
        for (String word : reserved) {
            Check.dueRepublic("ware " + word + " plain whole 3 done 1;", 1, 5);
            Check.dueRepublic("party " + word + " seats 3;", 1, 6);
            Check.dueRepublic("for " + word + " b;", 1, 4);
        }
        Check.dueRepublic("ware a plain whole 3 done 1;ware a plain whole 1 done 1;", 3, 33);
        Check.dueRepublic("ware a plain whole 3 done 1;party a seats 3;", 3, 34);
        Check.dueRepublic("party a seats 3;ware a plain whole 3 done 1;", 3, 21);
        StringBuilder six = new StringBuilder();
        for (char c = 'a'; c <= 'f'; c++) {
            six.append("ware ").append(c).append(" clock whole 9 done 1;");
        }
        Check.dueRepublic(six.toString(), 0, 0);
        Check.dueRepublic(six + "ware a letter", 5, six.length());
        Check.dueRepublic(six + "party g seats 4;", 0, 0);
        HalfShop x = Check.shop("ware a clock whole 21 done 30;ware b letter whole 20 done 9;");
        Check.due("more than half is half", x.ware(0, 2), 10);
        Check.due("less than half", x.ware(1, 2), 9);
        Check.due("kind", x.ware(0, 0), 3);
        Check.due("kind", x.ware(1, 0), 2);
    }

    private static void partiesAndCauses() {
        Check.dueRepublic("party a seats 0;party b seats 40;", 0, 0);
        Check.dueRepublic("party a seats 41;", 4, 14);
        Check.dueRepublic("party a whole 4;", 1, 8);
        Check.dueRepublic("party a seats ;", 1, 14);
        StringBuilder five = new StringBuilder();
        for (char c = 'a'; c <= 'e'; c++) {
            five.append("party ").append(c).append(" seats 1;");
        }
        Check.dueRepublic(five.toString(), 0, 0);
        Check.dueRepublic(five + " party party", 5, five.length() + 1);
        int at = FOUR.length();
        Check.dueRepublic(FOUR + "for pp aa;for pp bb;for qq aa;", 0, 0);
        Check.dueRepublic(FOUR + "for xx aa;", 2, at + 4);
        Check.dueRepublic(FOUR + "for aa aa;", 2, at + 4);
        Check.dueRepublic(FOUR + "for pp pp;", 2, at + 7);
        Check.dueRepublic(FOUR + "for pp xx;", 2, at + 7);
        Check.dueRepublic(FOUR + "for pp ;", 1, at + 7);
        Check.dueRepublic(FOUR + "for pp works;", 1, at + 7);
        Check.dueRepublic(FOUR + "for pp aa;for qq bb;for pp aa;", 3, at + 27);
        Check.dueRepublic("party pp seats 3;for pp aa;ware aa plain whole 3 done 0;", 2, 24);
    }

    private static void fineAndWorks() {
        Check.dueRepublic("fine 1;", 0, 0);
        Check.dueRepublic("fine 9;", 0, 0);
        Check.dueRepublic("fine 0;", 4, 5);
        Check.dueRepublic("fine 10;", 4, 5);
        Check.dueRepublic("fine 2;fine", 3, 7);
        Check.dueRepublic("works 1;works 1;", 3, 8);
        Check.dueRepublic("works 1;fine 3;works", 3, 15);
        Check.dueRepublic("work a 1;", 1, 0);
        Check.dueRepublic("week;", 1, 0);
    }

    private static void expressions() {
        Check.dueRepublic("works 9999;", 0, 0);
        Check.dueRepublic("works 10000;", 1, 6);
        Check.dueRepublic("works ;", 1, 6);
        Check.dueRepublic("works so half;", 1, 9);
        Check.dueRepublic("works aa;", 1, 6);
        Check.dueRepublic("works done;", 1, 6);
        Check.dueRepublic("works so<half<votes;", 1, 13);
        Check.dueRepublic("works so<half=votes;", 1, 13);
        Check.dueRepublic("works so<half and so=half or date<3;", 0, 0);
        Check.dueRepublic("works -3;", 1, 6);
        Check.dueRepublic("works so-;", 1, 9);
        Check.dueRepublic("works so);", 1, 8);
        Check.dueRepublic("works (so;", 1, 9);
        Check.dueRepublic("works ();", 1, 7);
        Check.dueRepublic("works (so", 1, 9);
        Check.dueRepublic("works not;", 1, 9);
        Check.dueRepublic("works so and;", 1, 12);
        Check.dueRepublic("works so not half;", 1, 9);
        value("3", 3);
        value("0", 0);
        value("9999", 9);
        value("3-5", 0);
        value("2+3*2", 8);
        value("(2+1)*2", 6);
        value("9-3-2", 4);
        value("not 0+1", 2);
        value("not 7", 0);
        value("not not 7", 1);
        value("not 0*5", 5);
        value("5 and 3", 1);
        value("0 or 3", 1);
        value("1 or 1 and 0", 0);
        value("(1 or (1 and 0))*3", 3);
        value("0 and 0 or 1", 1);
        value("2<3", 1);
        value("3<3", 0);
        value("3=3", 1);
        value("1+1=2", 1);
        value("5-(2<3)", 4);
        value("so", 2);
        value("half-6", 4);
        value("votes-8", 7);
        value("date+4", 4);
        value("9999*9999*9999<0", 1);
        value("9999*9999*43<9999*9999*42", 0);
    }

    private static void value(String law, int much) {
        HalfShop x = Check.shop("ware a plain whole 20 done 2;party p seats 15;for p a;works " + law + ";");
        x.week();
        Check.due("works " + law, x.ware(0, 2), Math.min(10, 2 + much));
        Check.due("fined by " + law, x.count(4), 2 * Math.max(0, much - 8));
    }

    private static void depth() {
        Check.dueRepublic("works not not not not 3;", 0, 0);
        Check.dueRepublic("works not not not not not 3;", 5, 26);
        Check.dueRepublic("works not not not not not so;", 5, 26);
        Check.dueRepublic("works not not not not not not 3;", 5, 26);
        Check.dueRepublic("works not not not not not (3);", 5, 26);
        Check.dueRepublic("works not not not not not );", 1, 26);
        Check.dueRepublic("works not not not not not aa;", 1, 26);
        Check.dueRepublic("works ((((3))));", 0, 0);
        Check.dueRepublic("works (((((3)))));", 5, 11);
        Check.dueRepublic("works (((((", 1, 11);
        Check.dueRepublic("works ((((((", 5, 11);
        Check.dueRepublic("works (((3))+((2)*not not 1))<1;", 0, 0);
        Check.dueRepublic("works (((3))+((2)*not not not 1))<1;", 5, 30);
        Check.dueRepublic("works (((3))+(((2))*not not 1))<1;", 0, 0);
        Check.dueRepublic("works (((3))+(2+(2*not not not 1)))<1;", 5, 27);
    }

    private static void terms() {
        HalfShop x = Check.shop(FOUR);
        Check.dueTerm(x, "work aa 1;stop bb 20;join aa bb;lend pp qq 20;week;", 0, 0);
        Check.due("lines", x.count(9), 5);
        Check.dueTerm(x, "work pp 1;", 2, 5);
        Check.due("the term stays", x.count(9), 5);
        Check.dueTerm(x, "work xx 1;", 2, 5);
        Check.dueTerm(x, "work aa 0;", 4, 8);
        Check.dueTerm(x, "work aa 21;", 4, 8);
        Check.dueTerm(x, "stop aa 21;", 4, 8);
        Check.dueTerm(x, "stop pp 2;", 2, 5);
        Check.dueTerm(x, "stop aa;", 1, 7);
        Check.dueTerm(x, "join aa aa;", 3, 8);
        Check.dueTerm(x, "join aa xx;", 2, 8);
        Check.dueTerm(x, "join pp aa;", 2, 5);
        Check.dueTerm(x, "join aa bb 3;", 1, 11);
        Check.dueTerm(x, "lend pp pp 3;", 3, 8);
        Check.dueTerm(x, "lend aa pp 3;", 2, 5);
        Check.dueTerm(x, "lend pp aa 3;", 2, 8);
        Check.dueTerm(x, "lend pp qq 0;", 4, 11);
        Check.dueTerm(x, "lend pp qq 21;", 4, 11);
        Check.dueTerm(x, "lend pp week 1;", 1, 8);
        Check.dueTerm(x, "week 1;", 1, 5);
        Check.dueTerm(x, "week", 1, 4);
        Check.dueTerm(x, "fine 3;", 1, 0);
        StringBuilder forty = new StringBuilder();
        for (int i = 0; i < 40; i++) {
            forty.append("week;");
        }
        Check.dueTerm(x, forty.toString(), 0, 0);
        Check.due("lines", x.count(9), 40);
        Check.dueTerm(x, forty + " week;", 5, 201);
        Check.dueTerm(x, forty + " work xx", 5, 201);
        Check.dueTerm(x, forty + " rest", 1, 201);
        Check.dueTerm(new HalfShop(), "week;", 0, 0);
    }

    private static void afterReading() {
        HalfShop x = Check.shop(FOUR + "fine 7;works 3;");
        Check.term(x, "week;");
        x.work(0, 20);
        x.lend(0, 1, 3);
        x.week();
        x.say(3, true);
        x.mark(2, false);
        String before = Check.view(x);
        Check.due("a fault", Check.republic(x, "fine 3;ware aa clock whole 9 done 0;works 2;fine"), 3 + 16 * 44);
        Check.due("all stays", Check.view(x).equals(before), true);
        Check.due("the mark stays", x.mark(2, true), true);
        Check.due("the fine and the works stay", x.week(), 35);
        Check.due("republic", Check.republic(x, FOUR), 0);
        int[] due = {2, 2, 2, 0, 0, 3, 0, 15, 0, 0, 0, 0, 0};
        for (int what = 0; what < due.length; what++) {
            Check.due("anew count(" + what + ")", x.count(what), due[what]);
        }
        Check.due("no mark", x.mark(2, true), false);
        Check.due("undo", x.undo(), false);
        Check.due("no cause", x.party(0, 1), 0);
        x.week();
        Check.due("works 1", x.ware(0, 2), 4);
    }
}
