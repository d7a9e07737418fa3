/** Promises 4 and 13 at their edges: the lines of a term, how many, what is wrong first; judged from the beginning. */
public final class EdgeTermTest {
    private static final String SHOP = "ware aa plain whole 20 done 3;ware bb plain whole 20 done 0;"
        + "ware cc plain whole 21 done 10;party pp seats 10;party qq seats 5;party rr seats 0;fine 3;";

    public static void main(String[] args) {
        numbers();
        names();
        notTheSame();
        onlyLines();
        fortyLines();
        fortyOfEachKind();
        cutBehindEachToken();
        faultKeepsAll();
        anotherTerm();
        judgedWhat();
        judgedNothing();
        judgedFirstAndLastLine();
        judgedWhatCannotBe();
        judgedFromTheBeginning();
        judgedFines();
        Check.end();
    }

    // "a WARE 1 to 20; a WARE 1 to 20; .. a PARTY to another one, .. 1 to 20"
    private static void numbers() {
        for (String line : new String[] {"work aa ", "stop aa ", "lend pp qq "}) {
            HalfShop x = Check.shop(SHOP);
            for (int n : new int[] {0, 1, 2, 19, 20, 21, 22, 100, 9999}) {
                boolean right = n >= 1 && n <= 20;
                Check.dueTerm(x, line + n + ";", right ? 0 : 4, right ? 0 : line.length());
            }
            Check.dueTerm(x, line + "00020;", 1, line.length());
            Check.dueTerm(x, line + "-1;", 1, line.length());
            Check.dueTerm(x, line + "aa;", 1, line.length());
            Check.dueTerm(x, line + ";", 1, line.length());
            Check.dueTerm(x, line + "1 1;", 1, line.length() + 2);
        }
    }

    // "2 a NAME of no WARE (.. behind work, stop, join, its second), of no PARTY (behind .. lend, its second) told"
    private static void names() {
        HalfShop x = Check.shop(SHOP);
        for (String none : new String[] {"pp", "zz", "so"}) {
            Check.dueTerm(x, "work " + none + " 1;", 2, 5);
            Check.dueTerm(x, "stop " + none + " 1;", 2, 5);
            Check.dueTerm(x, "join " + none + " aa;", 2, 5);
            Check.dueTerm(x, "join aa " + none + ";", 2, 8);
        }
        for (String none : new String[] {"aa", "zz", "so"}) {
            Check.dueTerm(x, "lend " + none + " pp 1;", 2, 5);
            Check.dueTerm(x, "lend pp " + none + " 1;", 2, 8);
        }
        Check.dueTerm(x, "join zz zz;", 2, 5);
        Check.dueTerm(x, "lend zz zz 1;", 2, 5);
        Check.dueTerm(x, "work 3 1;", 1, 5);
        Check.dueTerm(x, "join aa 3;", 1, 8);
        Check.dueTerm(new HalfShop(), "work aa 1;", 2, 5);
    }

    // "two WARES, not the same"; "a PARTY to another one, not the same"
    private static void notTheSame() {
        HalfShop x = Check.shop(SHOP);
        String[] wares = {"aa", "bb", "cc"};
        String[] parties = {"pp", "qq", "rr"};
        for (int i = 0; i < 3; i++) {
            for (int j = 0; j < 3; j++) {
                Check.dueTerm(x, "join " + wares[i] + " " + wares[j] + ";", i == j ? 3 : 0, i == j ? 8 : 0);
                Check.dueTerm(x, "lend " + parties[i] + " " + parties[j] + " 1;", i == j ? 3 : 0, i == j ? 8 : 0);
            }
        }
        Check.dueTerm(x, "lend pp pp 99;", 3, 8);
    }

    private static void onlyLines() {
        HalfShop x = Check.shop(SHOP);
        for (String none : new String[] {"ware a plain whole 9 done 0;", "party a seats 3;", "for pp aa;", "fine 3;",
            "works 3;", "rest;", "aa", ";", "3", "weeks;", "wee k;"}) {
            Check.dueTerm(x, none, 1, 0);
            Check.dueTerm(x, "week;" + none, 1, 5);
        }
        Check.dueTerm(x, "week;;", 1, 5);
        Check.dueTerm(x, "week week;", 1, 5);
        Check.dueTerm(x, "week 1;", 1, 5);
        Check.dueTerm(x, "join aa bb 1;", 1, 11);
        Check.dueTerm(x, " \n ", 0, 0);
        Check.due("no lines", x.count(9), 0);
    }

    private static String weeks(int many) {
        StringBuilder s = new StringBuilder();
        for (int i = 0; i < many; i++) {
            s.append("week;");
        }
        return s.toString();
    }

    // "40 lines at most"; "the first word of a 41st line of a TERM"
    private static void fortyLines() {
        HalfShop x = Check.shop(SHOP);
        for (int many : new int[] {0, 1, 39, 40}) {
            Check.dueTerm(x, weeks(many), 0, 0);
            Check.due("lines", x.count(9), many);
        }
        Check.dueTerm(x, weeks(41), 5, 200);
        Check.due("forty stay", x.count(9), 40);
        for (String word : new String[] {"week", "work", "stop", "join", "lend", "work zz", "join aa aa", "stop aa 99"}) {
            Check.dueTerm(x, weeks(40) + "\n" + word, 5, 201);
        }
        Check.dueTerm(x, weeks(40) + " ware", 1, 201);
        Check.dueTerm(x, weeks(40) + " ", 0, 0);
    }

    private static void fortyOfEachKind() {
        for (String line : new String[] {"work aa 1;", "stop aa 1;", "join aa bb;", "lend pp qq 1;"}) {
            HalfShop x = Check.shop(SHOP);
            StringBuilder s = new StringBuilder();
            for (int i = 0; i < 40; i++) {
                s.append(line);
            }
            Check.dueTerm(x, s.toString(), 0, 0);
            Check.due("lines", x.count(9), 40);
            Check.dueTerm(x, s + line, 5, s.length());
        }
    }

    private static void cutBehindEachToken() {
        HalfShop x = Check.shop(SHOP);
        for (String line : new String[] {"work aa 1 ;", "stop bb 2 ;", "join aa bb ;", "lend pp qq 3 ;", "week ;"}) {
            String[] tokens = line.split(" ");
            String text = "";
            for (int i = 0; i + 1 < tokens.length; i++) {
                text += (i == 0 ? "" : " ") + tokens[i];
                Check.dueTerm(x, text, 1, text.length());
                Check.dueTerm(x, text + "\n ", 1, text.length() + 2);
                Check.dueTerm(x, text + " ?", 1, text.length() + 1);
            }
            Check.dueTerm(x, line, 0, 0);
        }
    }

    private static HalfShop rich() {
        HalfShop x = Check.shop(SHOP);
        Check.term(x, "work aa 9;week;lend rr pp 1;");
        x.say(3, true);
        x.mark(2, false);
        x.work(0, 20);
        x.lend(0, 1, 3);
        x.week();
        return x;
    }

    // "The TAPE is read as a TERM, likewise": with a fault all stays, the TERM too.
    private static void faultKeepsAll() {
        for (String text : new String[] {"?", "week;rest;", "work aa 0;", "join aa aa;", "work zz 1;", weeks(41), "week"}) {
            HalfShop x = rich();
            Check.due("a fault of " + text, Check.term(x, text) > 0, true);
            Check.due("the tape is taken", x.count(12), 0);
            Check.due("all stays behind " + text, Check.deepView(x).equals(Check.deepView(rich())), true);
        }
    }

    // "A TERM is the TERM": nothing else is changed by it.
    private static void anotherTerm() {
        HalfShop x = rich();
        Check.due("term", Check.term(x, "stop aa 1;join aa bb;"), 0);
        Check.due("lines", x.count(9), 2);
        Check.due("judged", x.judged(0), 1);
        Check.due("judged", x.judged(2), 0);
        Check.due("term", Check.term(x, "work aa 9;week;lend rr pp 1;"), 0);
        Check.due("nothing else", Check.deepView(x).equals(Check.deepView(rich())), true);
        HalfShop y = rich();
        Check.due("an empty one", y.term(), 0);
        Check.due("lines", y.count(9), 0);
        Check.due("judged", y.judged(2), 0);
        Check.due("what can be undone stays", y.count(11), 3);
    }

    // "what 0, 1: lines (NONE: none), 2: fines; -2: others"
    private static void judgedWhat() {
        HalfShop x = Check.shop(SHOP);
        Check.term(x, "join aa bb;");
        for (int other : new int[] {-1, 3, -2, 4, Integer.MIN_VALUE, Integer.MAX_VALUE}) {
            Check.due("judged(" + other + ")", x.judged(other), -2);
        }
        dueJudged(x, 0, -1, 0);
    }

    private static void dueJudged(HalfShop x, int refused, int fined, int fines) {
        Check.due("judged(0)", x.judged(0), refused);
        Check.due("judged(1)", x.judged(1), fined);
        Check.due("judged(2)", x.judged(2), fines);
    }

    private static void judgedNothing() {
        HalfShop x = Check.shop(SHOP);
        dueJudged(x, -1, -1, 0);
        x.term();
        dueJudged(x, -1, -1, 0);
        Check.term(x, "work aa 7;stop aa 20;stop aa 20;");
        dueJudged(x, -1, -1, 0);
    }

    private static void judgedFirstAndLastLine() {
        HalfShop x = Check.shop("ware aa plain whole 20 done 9;ware bb plain whole 20 done 0;fine 3;works 0;");
        Check.term(x, "join aa bb;");
        dueJudged(x, 0, -1, 0);
        Check.term(x, "work aa 2;");
        dueJudged(x, -1, 0, 3);
        Check.term(x, weeks(39) + "join aa bb;");
        dueJudged(x, 39, -1, 0);
        Check.term(x, weeks(39) + "work aa 2;");
        dueJudged(x, -1, 39, 3);
        Check.term(x, weeks(38) + "work aa 1;work aa 1;");
        dueJudged(x, -1, 39, 3);
    }

    // "a line that can't be is left out; work, stop, a week always can"
    private static void judgedWhatCannotBe() {
        HalfShop x = Check.shop("ware aa plain whole 20 done 10;ware bb plain whole 20 done 9;"
            + "ware cc plain whole 21 done 10;party pp seats 40;party qq seats 40;party rr seats 40;fine 3;works 0;");
        Check.term(x, "join aa bb;");
        dueJudged(x, 0, -1, 0);
        Check.term(x, "join aa cc;");
        dueJudged(x, 0, -1, 0);
        Check.term(x, "work bb 1;join aa bb;");
        dueJudged(x, -1, 1, 30);
        Check.term(x, "work bb 1;join aa bb;join aa bb;");
        dueJudged(x, 2, 1, 30);
        Check.term(x, "lend pp qq 20;lend pp qq 20;lend pp qq 1;");
        dueJudged(x, 2, -1, 0);
        Check.term(x, "lend pp qq 20;lend pp qq 20;lend rr qq 19;");
        dueJudged(x, -1, -1, 0);
        Check.term(x, "lend pp qq 20;lend pp qq 20;lend rr qq 20;");
        dueJudged(x, 2, -1, 0);
        // It is left out: rr still has its 40, then lends 19.
        Check.term(x, "lend pp qq 20;lend pp qq 20;lend rr qq 20;lend rr qq 19;lend rr pp 20;lend rr pp 1;lend rr pp 1;");
        dueJudged(x, 2, -1, 0);
        Check.term(x, "stop bb 20;stop bb 20;work aa 20;");
        dueJudged(x, -1, 2, 60);
        Check.term(x, "stop aa 1;work bb 1;join aa bb;work aa 1;join aa bb;");
        dueJudged(x, 2, 4, 30);
        Check.term(x, "stop aa 5;work aa 5;work aa 1;");
        dueJudged(x, -1, 2, 3);
    }

    // "the TERM from the beginning": as it was told, whatever has been done since.
    private static void judgedFromTheBeginning() {
        HalfShop x = Check.shop(SHOP);
        Check.term(x, "work aa 8;lend pp rr 10;lend pp rr 1;week;");
        dueJudged(x, 2, 0, 3 + 3 + 3);
        x.work(0, 20);
        x.work(1, 20);
        x.join(0, 1);
        x.lend(0, 1, 9);
        x.week();
        dueJudged(x, 2, 0, 9);
        Check.due("nothing is done by it", x.count(3), 1);
        x.undo();
        dueJudged(x, 2, 0, 9);
    }

    private static void judgedFines() {
        HalfShop x = Check.shop("ware aa plain whole 2 done 1;ware bb plain whole 2 done 1;fine 9;");
        Check.term(x, "join aa bb;");
        dueJudged(x, -1, 0, 90);
        Check.term(x, "week;join aa bb;week;join aa bb;");
        dueJudged(x, -1, 0, 18 + 90 + 90);
        StringBuilder s = new StringBuilder();
        for (int i = 0; i < 40; i++) {
            s.append("work aa 20;");
        }
        Check.term(x, s.toString());
        dueJudged(x, -1, 0, 40 * 20 * 9);
    }
}
