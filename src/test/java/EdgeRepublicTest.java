import java.util.function.ToIntFunction;

/** Promise 3 at its edges: what a republic may hold, how many, what is wrong first; what stays and what is new. */
public final class EdgeRepublicTest {
    private static final String RICH = "ware aa plain whole 20 done 9;ware bb bridge whole 20 done 10;"
        + "party pp seats 10;party qq seats 5;for pp aa;for qq bb;fine 7;works 3;";

    public static void main(String[] args) {
        numbers();
        moreThanHalf();
        kinds();
        sevenWares();
        sixParties();
        causes();
        allCauses();
        fineAndWorksOnce();
        onlyTellings();
        firstFromTheLeft();
        theLeastAtOneToken();
        faultKeepsAll();
        newIsAllAsTold();
        fewerThanBefore();
        oneBehindAnother();
        Check.end();
    }

    private static void dueNumbers(String before, String behind, int least, int most, ToIntFunction<HalfShop> seen) {
        int[] tried = {0, 1, 2, least, least + 1, most - 1, most, most + 1, most + 2, 100, 256, 999, 1000, 9999};
        for (int n : tried) {
            String text = before + n + behind;
            if (n < least || n > most) {
                Check.dueRepublic(text, 4, before.length());
            } else {
                Check.due("told " + text, seen.applyAsInt(Check.shop(text)), n);
            }
        }
        Check.dueRepublic(before + "-1" + behind, 1, before.length());
        Check.dueRepublic(before + "a" + behind, 1, before.length());
        Check.dueRepublic(before + behind, 1, before.length() + (behind.length() - behind.trim().length()));
    }

    // "whole 2 to 60, done 0 to 30", "seats 0 to 40", "fine 1 to 9 (2)"
    private static void numbers() {
        dueNumbers("ware a plain whole ", " done 0;", 2, 60, x -> x.ware(0, 1));
        dueNumbers("ware a plain whole 60 done ", ";", 0, 30, x -> x.ware(0, 2));
        dueNumbers("party a seats ", ";", 0, 40, x -> x.party(0, 0));
        dueNumbers("fine ", ";", 1, 9, x -> x.count(2));
        Check.due("fine untold", Check.shop("").count(2), 2);
    }

    // "(More than half of a ware done is half of it.)"; done is 0 to 30 whatever the whole is.
    private static void moreThanHalf() {
        int[][] told = {{2, 0, 0}, {2, 1, 1}, {2, 2, 1}, {2, 30, 1}, {3, 1, 1}, {3, 2, 1}, {59, 29, 29}, {59, 30, 29},
            {60, 29, 29}, {60, 30, 30}, {20, 9, 9}, {20, 10, 10}, {20, 11, 10}, {21, 10, 10}, {21, 11, 10}};
        for (int[] t : told) {
            HalfShop x = Check.shop("ware a plain whole " + t[0] + " done " + t[1] + ";");
            Check.due("done " + t[1] + " of " + t[0], x.ware(0, 2), t[2]);
            Check.due("half of " + t[0], x.ware(0, 3), t[0] / 2);
            Check.due("is half done", x.count(6), t[2] == t[0] / 2 ? 1 : 0);
            Check.due("nothing is fined for it", x.count(4), 0);
        }
        Check.dueRepublic("ware a plain whole 2 done 31;", 4, 26);
    }

    // "KIND: plain, bridge, letter, clock"
    private static void kinds() {
        String[] kinds = {"plain", "bridge", "letter", "clock"};
        for (int i = 0; i < kinds.length; i++) {
            Check.due(kinds[i], Check.shop("ware a " + kinds[i] + " whole 9 done 0;").ware(0, 0), i);
        }
        for (String none : new String[] {"plai", "plains", "clocks", "b", "whole", "so", "3", ";"}) {
            Check.dueRepublic("ware a " + none + " whole 9 done 0;", 1, 7);
        }
    }

    private static String wares(int many) {
        StringBuilder s = new StringBuilder();
        for (int i = 0; i < many; i++) {
            s.append("ware w").append((char) ('a' + i)).append(" plain whole ").append(9 + i).append(" done 1;");
        }
        return s.toString();
    }

    private static String parties(int many) {
        StringBuilder s = new StringBuilder();
        for (int i = 0; i < many; i++) {
            s.append("party p").append((char) ('a' + i)).append(" seats ").append(9 + i).append(";");
        }
        return s.toString();
    }

    // "ware: 6 at most, numbered as told"; "5 one too many: the words ware of a seventh"
    private static void sevenWares() {
        String six = wares(6);
        HalfShop x = Check.shop(six);
        Check.due("six", x.count(0), 6);
        for (int i = 0; i < 6; i++) {
            Check.due("numbered as told", x.ware(i, 1), 9 + i);
        }
        Check.due("no seventh", x.ware(6, 0), -1);
        Check.dueRepublic(wares(7), 5, six.length());
        Check.dueRepublic(six + " ware", 5, six.length() + 1);
        Check.dueRepublic(six + "ware wa king", 5, six.length());
        Check.dueRepublic(six + "ware 3;", 5, six.length());
        Check.dueRepublic(six + "wares", 1, six.length());
        Check.dueRepublic(six + parties(5) + "for pe wf;fine 3;works 2;", 0, 0);
        String both = six + parties(5) + "fine 3;";
        Check.dueRepublic(both + "ware", 5, both.length());
    }

    // "party: 5 at most, numbered as told"; "party of a sixth"
    private static void sixParties() {
        String five = parties(5);
        HalfShop x = Check.shop(five);
        Check.due("five", x.count(1), 5);
        for (int i = 0; i < 5; i++) {
            Check.due("numbered as told", x.party(i, 0), 9 + i);
        }
        Check.due("no sixth", x.party(5, 0), -1);
        Check.dueRepublic(parties(6), 5, five.length());
        Check.dueRepublic(five + "\nparty", 5, five.length() + 1);
        Check.dueRepublic(five + "party pa seats 99;", 5, five.length());
        Check.dueRepublic(five + wares(6), 0, 0);
        Check.dueRepublic(five + wares(6) + "party", 5, (five + wares(6)).length());
    }

    // "for: a PARTY told, a WARE told, each two once"
    private static void causes() {
        String told = wares(2) + parties(2);
        int at = told.length();
        Check.dueRepublic(told + "for pa wa;", 0, 0);
        Check.dueRepublic(told + "for wa pa;", 2, at + 4);
        Check.dueRepublic(told + "for pc wa;", 2, at + 4);
        Check.dueRepublic(told + "for pc wc;", 2, at + 4);
        Check.dueRepublic(told + "for pa wc;", 2, at + 7);
        Check.dueRepublic(told + "for pa pa;", 2, at + 7);
        Check.dueRepublic(told + "for pa 3;", 1, at + 7);
        Check.dueRepublic(told + "for 3 wa;", 1, at + 4);
        Check.dueRepublic(told + "for pa wa wb;", 1, at + 10);
        Check.dueRepublic(told + "for pa wa;for pa wa;", 3, at + 17);
        Check.dueRepublic(told + "for pa wa;for pb wa;for pa wb;for pa wa;", 3, at + 37);
        Check.dueRepublic(told + "for pa wa;for pb wa;for pa wb;for pb wb;", 0, 0);
        // Told later is not told yet.
        Check.dueRepublic(parties(1) + "for pa wa;" + wares(1), 2, parties(1).length() + 7);
        Check.dueRepublic(wares(1) + "for pa wa;" + parties(1), 2, wares(1).length() + 4);
    }

    private static void allCauses() {
        StringBuilder s = new StringBuilder(wares(6) + parties(5));
        for (char p = 'a'; p <= 'e'; p++) {
            for (char w = 'f'; w >= 'a'; w--) {
                s.append("for p").append(p).append(" w").append(w).append(';');
            }
        }
        HalfShop x = Check.shop(s.toString());
        for (int party = 0; party < 5; party++) {
            Check.due("all wares", x.party(party, 1), 63);
        }
        for (int ware = 0; ware < 6; ware++) {
            Check.due("all parties", x.bloc(ware), 31);
        }
        Check.dueRepublic(s + "for pe wa;", 3, s.length() + 7);
    }

    // "fine, works: once each"; "3 .. fine, works a second time"
    private static void fineAndWorksOnce() {
        Check.dueRepublic("fine 3;works 3;", 0, 0);
        Check.dueRepublic("fine 3;fine 3;", 3, 7);
        Check.dueRepublic("fine 3;works 3;fine", 3, 15);
        Check.dueRepublic("fine 3;fine 0;", 3, 7);
        Check.dueRepublic("works 3;works 3;", 3, 8);
        Check.dueRepublic("works 3;fine 3;works", 3, 15);
        Check.dueRepublic("works 3;works done;", 3, 8);
        // Also when they are told what is so without them.
        Check.dueRepublic("fine 2;fine 2;", 3, 7);
        Check.dueRepublic("works 1;works 1;", 3, 8);
        HalfShop x = Check.shop("fine 3;works 3;");
        Check.due("once more in another republic", Check.republic(x, "fine 4;works 4;"), 0);
        Check.due("fine", x.count(2), 4);
    }

    private static void onlyTellings() {
        for (String none : new String[] {"work a 1;", "stop a 1;", "join a b;", "lend a b 1;", "week;", "plain", "so",
            "not", ";", "3", "(", "a"}) {
            Check.dueRepublic(none, 1, 0);
            Check.dueRepublic("fine 3; " + none, 1, 8);
        }
        Check.dueRepublic("fine 3;;", 1, 7);
        Check.dueRepublic("fine 3 fine 3;", 1, 7);
    }

    // "of the first token from the left that is wrong"
    private static void firstFromTheLeft() {
        Check.dueRepublic("fine 0;fine 0;rest", 4, 5);
        Check.dueRepublic("ware a plain whole 61 done 31;", 4, 19);
        Check.dueRepublic("ware a plain whole 60 done 31 ?", 4, 27);
        Check.dueRepublic("ware a king whole 61 done 31;", 1, 7);
        Check.dueRepublic("ware plain king whole 61;", 1, 5);
        Check.dueRepublic("for a b;fine 0;", 2, 4);
        Check.dueRepublic("fine 3;for a b;fine 0;", 2, 11);
        Check.dueRepublic("works 1+;works 2;", 1, 8);
        Check.dueRepublic("party a seats 3;party a seats 41;", 3, 22);
    }

    // "the least": a token that is wrong in more than one way.
    private static void theLeastAtOneToken() {
        // Five digits are none, though no such number is as told.
        Check.dueRepublic("ware a plain whole 99999 done 0;", 1, 19);
        // Within five, and it can't stand there.
        Check.dueRepublic("works (((((;", 1, 11);
        Check.dueRepublic("works (((((and", 1, 11);
        Check.dueRepublic("works (((((12345", 1, 11);
        Check.dueRepublic("works (((((?", 1, 11);
        Check.dueRepublic("works (((((3", 5, 11);
        // The 41st line of a term whose word is none of a line.
        StringBuilder forty = new StringBuilder();
        for (int i = 0; i < 40; i++) {
            forty.append("week;");
        }
        Check.dueTerm(new HalfShop(), forty + "rest;", 1, 200);
        Check.dueTerm(new HalfShop(), forty + "weekweekw;", 1, 200);
        Check.dueTerm(new HalfShop(), forty + ";", 1, 200);
        Check.dueTerm(new HalfShop(), forty + "week", 5, 200);
    }

    private static HalfShop rich() {
        HalfShop x = Check.shop(RICH);
        Check.term(x, "work aa 3;week;join aa bb;");
        x.say(3, true);
        x.mark(1, false);
        x.work(0, 2);
        x.lend(0, 1, 3);
        x.join(0, 1);
        x.week();
        x.say(9, false);
        x.mark(3, false);
        return x;
    }

    // "0, or its FAULT (all stays then)": week, done, seats, fines, joined, term, said, undone, marks, fine, works.
    private static void faultKeepsAll() {
        String[] texts = {"?", "fine 0;", "fine 3;fine", "ware aa clock whole 60 done 0;party pp seats 40;fine 1;works 9;;",
            wares(6) + "ware", "for a b;", "works ((((((", "fine 3"};
        for (String text : texts) {
            HalfShop x = rich();
            Check.due("a fault of " + text, Check.republic(x, text) > 0, true);
            Check.due("the tape is taken", x.count(12), 0);
            Check.due("all stays behind " + text, Check.deepView(x).equals(Check.deepView(rich())), true);
        }
        HalfShop x = rich();
        Check.due("a fault", Check.republic(x, "ware zz plain whole 9 done 0;fine 0;"), 4 + 16 * 34);
        Check.due("old names stay", Check.term(x, "work aa 1;lend pp qq 1;"), 0);
        Check.due("no new one comes", Check.term(x, "work zz 1;"), 2 + 16 * 5);
    }

    // "week 0, all as told, nothing fined, nothing joined, no TERM, nothing SAID, nothing can be undone, no MARK"
    private static void newIsAllAsTold() {
        HalfShop x = rich();
        Check.due("republic", Check.republic(x, RICH), 0);
        int[] counts = {2, 2, 7, 0, 0, 19, 2, 15, 0, 0, 0, 0, 0};
        for (int what = 0; what < counts.length; what++) {
            Check.due("count(" + what + ")", x.count(what), counts[what]);
        }
        Check.due("done", x.ware(0, 2), 9);
        Check.due("seats", x.party(0, 0), 10);
        Check.due("seats", x.party(1, 0), 5);
        Check.due("undo", x.undo(), false);
        for (int mark = 0; mark <= 3; mark++) {
            Check.due("no mark " + mark, x.mark(mark, true), false);
        }
        Check.due("no line", x.judged(2), 0);
        Check.due("nothing said", x.wholes(0), 59);
        Check.due("as a new object", Check.deepView(x).equals(Check.deepView(Check.shop(RICH))), true);
        HalfShop full = rich();
        for (int i = 0; i < 8; i++) {
            full.say(i, false);
        }
        Check.due("republic", Check.republic(full, RICH), 0);
        for (int i = 0; i < 8; i++) {
            Check.due("eight can be said anew", full.say(i, false), true);
        }
    }

    private static void fewerThanBefore() {
        HalfShop x = Check.shop(wares(6) + parties(5) + "for pa wa;for pe wf;fine 9;works 9;");
        Check.due("republic", Check.republic(x, "ware a letter whole 40 done 2;party p seats 3;"), 0);
        Check.due("wares", x.count(0), 1);
        Check.due("parties", x.count(1), 1);
        Check.due("fine", x.count(2), 2);
        Check.due("done of all", x.count(5), 2);
        Check.due("seats of all", x.count(7), 3);
        Check.due("no ware 1", x.ware(1, 1), -1);
        Check.due("no party 1", x.party(1, 0), -1);
        Check.due("for nothing", x.party(0, 1), 0);
        Check.due("nobody is for it", x.bloc(0), 0);
        x.week();
        Check.due("works 1", x.ware(0, 2), 3);
        Check.due("an empty one", x.republic(), 0);
        Check.due("no wares", x.count(0), 0);
        Check.due("no parties", x.count(1), 0);
        Check.due("nothing done", x.count(5), 0);
        Check.due("no seats", x.count(7), 0);
    }

    /** Nothing of any republic before, right or wrong, is left in the next one. */
    private static void oneBehindAnother() {
        String[] wrong = {"fine 9;works 9;?", wares(6) + "?", parties(5) + "?", "fine 9;works 9 9;",
            wares(2) + parties(2) + "for pa wb;for pb wb;fine 9;works 9;for pa wb;"};
        HalfShop x = new HalfShop();
        for (int i = 0; i < 10; i++) {
            Check.due("a fault", Check.republic(x, wrong[i % wrong.length]) > 0, true);
            String fine = i % 3 == 0 ? "" : "fine " + i + ";";
            String works = i % 3 == 1 ? "" : "works 3;";
            String cause = i % 3 == 2 ? "" : "for pa wa;";
            Check.due("republic " + i, Check.republic(x, wares(2) + parties(2) + cause + fine + works), 0);
            Check.due("wares", x.count(0), 2);
            Check.due("parties", x.count(1), 2);
            Check.due("fine", x.count(2), i % 3 == 0 ? 2 : i);
            Check.due("causes", x.party(0, 1), i % 3 == 2 ? 0 : 1);
            Check.due("causes", x.party(1, 1), 0);
            x.week();
            Check.due("works", x.ware(0, 2), i % 3 == 1 ? 2 : 4);
        }
    }
}
