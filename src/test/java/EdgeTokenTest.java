/** The tokens at their edges: words, numbers, signs, blanks, the end, and what is none. */
public final class EdgeTokenTest {
    private static final String[] RESERVED = {"ware", "whole", "done", "party", "seats", "for", "fine", "works", "work",
        "stop", "join", "lend", "week", "plain", "bridge", "letter", "clock", "not", "and", "or"};

    public static void main(String[] args) {
        eightLetters();
        fourDigits();
        letterBehindNumber();
        lettersAndTheirNeighbours();
        digitsAndTheirNeighbours();
        everySignInALaw();
        everySignAtFirst();
        blanks();
        reservedWords();
        nearlyReservedWords();
        namesAlike();
        cutBehindEachToken();
        Check.end();
    }

    // "WORDS (letters a .. z, 8 at most)"; "a longer WORD .. at its first sign is none"
    private static void eightLetters() {
        HalfShop x = Check.shop("ware abcdefgh plain whole 20 done 3;");
        Check.due("a name of 8", Check.term(x, "work abcdefgh 1;"), 0);
        Check.due("its first 7 are another one", Check.term(x, "work abcdefg 1;"), 2 + 16 * 5);
        Check.due("9 are none", Check.term(x, "work abcdefghi 1;"), 1 + 16 * 5);
        Check.dueRepublic("ware abcdefghi plain whole 20 done 3;", 1, 5);
        Check.dueRepublic("ware aaaaaaaaaaaaaaaaaaaaaaaaaaaaaaa plain whole 20 done 3;", 1, 5);
        Check.dueRepublic("ware a plain whole 20 done 3;party abcdefghi seats 1;", 1, 35);
        Check.dueRepublic("finefinefine 3;", 1, 0);
        Check.dueRepublic("works sosososos;", 1, 6);
        Check.dueRepublic("ware a\nplain whole 20 donedonedone", 1, 22);
        // Eight letters z, then nine: no wrap-around makes one of the other.
        Check.dueRepublic("party zzzzzzzz seats 1;party zzzzzzzzz seats 1;", 1, 29);
        Check.dueRepublic("party zzzzzzzz seats 1;party zzzzzzz seats 1;party z seats 1;", 0, 0);
    }

    // "NUMBERS (1 to 4 digits ..)"; "a longer .. NUMBER, too, at its first sign"
    private static void fourDigits() {
        for (String nine : new String[] {"9", "09", "009", "0009"}) {
            HalfShop x = Check.shop("fine " + nine + ";");
            Check.due("fine " + nine, x.count(2), 9);
        }
        Check.dueRepublic("fine 00009;", 1, 5);
        Check.dueRepublic("fine 000000000000009;", 1, 5);
        // 2 to the power of 32, and 9; of 64, and 9.
        Check.dueRepublic("fine 4294967305;", 1, 5);
        Check.dueRepublic("fine 18446744073709551625;", 1, 5);
        Check.dueRepublic("fine 9999;", 4, 5);
        Check.dueRepublic("fine 10000;", 1, 5);
        Check.dueRepublic("works 9999;", 0, 0);
        Check.dueRepublic("works 10000;", 1, 6);
        Check.dueRepublic("works 1+12345;", 1, 8);
    }

    // "a letter may stand right behind"
    private static void letterBehindNumber() {
        HalfShop x = Check.shop("ware a plain whole 20done 3;works 3and 4;");
        Check.due("whole", x.ware(0, 1), 20);
        Check.dueRepublic("ware a plain whole 0020done 3;", 0, 0);
        Check.dueRepublic("ware a plain whole 00020done 3;", 1, 19);
        Check.dueRepublic("fine 9a;", 1, 6);
        Check.dueRepublic("fine9;", 0, 0);
        Check.dueRepublic("ware a1 plain whole 20 done 3;", 1, 6);
        Check.dueRepublic("party1 a seats 1;", 1, 5);
    }

    private static void lettersAndTheirNeighbours() {
        Check.dueRepublic("ware a plain whole 9 done 1;ware z plain whole 9 done 1;", 0, 0);
        for (char c : new char[] {'`', '{', 'A', 'Z', '@', '[', '_', '~'}) {
            Check.dueRepublic("ware " + c + " plain whole 9 done 1;", 1, 5);
            Check.dueRepublic("ware a" + c + " plain whole 9 done 1;", 1, 6);
            Check.dueRepublic("ware " + c + "a plain whole 9 done 1;", 1, 5);
        }
    }

    private static void digitsAndTheirNeighbours() {
        Check.dueRepublic("party a seats 0;party b seats 9;", 0, 0);
        for (char c : new char[] {'/', ':', '.', ','}) {
            Check.dueRepublic("party a seats " + c + ";", 1, 14);
            Check.dueRepublic("party a seats 1" + c + ";", 1, 15);
        }
    }

    // "the signs ( ) < = + - * ;  All else .. is none."
    private static void everySignInALaw() {
        for (char c = 33; c <= 126; c++) {
            boolean digit = c >= '0' && c <= '9';
            boolean between = "<=+-*".indexOf(c) >= 0;
            int place = c == ';' ? 8 : 7;
            Check.dueRepublic("works 3" + c + "4;", digit || between ? 0 : 1, digit || between ? 0 : place);
        }
        Check.dueRepublic("works 3 4;", 1, 8);
        Check.dueRepublic("works 3\n+\n4;", 0, 0);
    }

    private static void everySignAtFirst() {
        for (char c = 33; c <= 126; c++) {
            Check.dueRepublic("" + c, 1, 0);
            Check.dueTerm(new HalfShop(), "" + c, 1, 0);
        }
    }

    // "blanks (10, 32) between where one likes"
    private static void blanks() {
        Check.dueRepublic("", 0, 0);
        Check.dueRepublic(" ", 0, 0);
        Check.dueRepublic("\n", 0, 0);
        Check.dueRepublic("\n \n\n  fine\n\n 7 \n;\n ", 0, 0);
        Check.dueRepublic("fi ne 7;", 1, 0);
        Check.dueRepublic("fine 7 7;", 1, 7);
        Check.dueRepublic("ware a plain whole 2 0 done 3;", 1, 21);
        Check.dueRepublic("party\na\nseats\n1\n;for\na\nb", 2, 23);
        Check.dueRepublic("warea plain whole 9 done 1;", 1, 0);
        // 9, 11, 13 and 0 come on no tape: what was on either side of them is one word.
        Check.dueRepublic("fi\tn\re 7\u000b;", 0, 0);
    }

    // "A NAME is another WORD than ware, whole, done, .. not, and, or"
    private static void reservedWords() {
        String four = "ware aa plain whole 20 done 3;ware bb plain whole 20 done 3;party pp seats 3;party qq seats 3;";
        HalfShop x = Check.shop(four);
        for (String word : RESERVED) {
            Check.dueRepublic("ware " + word + " plain whole 3 done 1;", 1, 5);
            Check.dueRepublic("party " + word + " seats 3;", 1, 6);
            Check.dueRepublic(four + "for " + word + " aa;", 1, four.length() + 4);
            Check.dueRepublic(four + "for pp " + word + ";", 1, four.length() + 7);
            Check.dueTerm(x, "work " + word + " 1;", 1, 5);
            Check.dueTerm(x, "stop " + word + " 1;", 1, 5);
            Check.dueTerm(x, "join " + word + " aa;", 1, 5);
            Check.dueTerm(x, "join aa " + word + ";", 1, 8);
            Check.dueTerm(x, "lend " + word + " pp 1;", 1, 5);
            Check.dueTerm(x, "lend pp " + word + " 1;", 1, 8);
        }
    }

    private static void nearlyReservedWords() {
        for (String word : RESERVED) {
            Check.dueRepublic("ware " + word + "x plain whole 3 done 1;", 0, 0);
            Check.dueRepublic("party x" + word + " seats 3;", 0, 0);
            Check.dueRepublic("party " + word.substring(1) + " seats 3;", word.equals("for") ? 1 : 0,
                word.equals("for") ? 6 : 0);
        }
        for (String fact : new String[] {"so", "half", "votes", "date", "said", "told", "term", "most"}) {
            HalfShop x = Check.shop("ware " + fact + " plain whole 20 done 3;works " + "so;");
            Check.due(fact + " is a name", Check.term(x, "work " + fact + " 1;"), 0);
        }
    }

    // "no two (WARES, PARTIES) are alike"; "3 a NAME told already"
    private static void namesAlike() {
        String ware = "ware ab plain whole 9 done 1;";
        String party = "party ab seats 3;";
        Check.dueRepublic(ware + ware, 3, ware.length() + 5);
        Check.dueRepublic(party + party, 3, party.length() + 6);
        Check.dueRepublic(ware + party, 3, ware.length() + 6);
        Check.dueRepublic(party + ware, 3, party.length() + 5);
        Check.dueRepublic(ware + "ware a plain whole 9 done 1;ware abc plain whole 9 done 1;ware ba plain whole 9 done 1;"
            + "party b seats 1;party abb seats 1;party aab seats 1;", 0, 0);
        Check.dueRepublic("ware a plain whole 9 done 1;ware b plain whole 9 done 1;ware c plain whole 9 done 1;"
            + "ware d plain whole 9 done 1;ware e plain whole 9 done 1;party e seats 1;", 3, 146);
        // Names of the republic before are no names told.
        HalfShop x = Check.shop(ware + "party cd seats 3;");
        Check.due("other names", Check.republic(x, "ware cd plain whole 9 done 1;party ab seats 3;"), 0);
        Check.due("an old ware", Check.term(x, "work ab 1;"), 2 + 16 * 5);
        Check.due("a new ware", Check.term(x, "work cd 1;"), 0);
    }

    // "the end being one at the text's length"
    private static void cutBehindEachToken() {
        String[] tellings = {"ware ab plain whole 20 done 3 ;", "party cd seats 5 ;", "fine 3 ;",
            "works so + ( half - 3 ) * not votes < date and 3 ;"};
        for (String telling : tellings) {
            String[] tokens = telling.split(" ");
            String text = "";
            for (int i = 0; i + 1 < tokens.length; i++) {
                text += (i == 0 ? "" : " ") + tokens[i];
                Check.dueRepublic(text, 1, text.length());
                Check.dueRepublic(text + " \n ", 1, text.length() + 3);
                Check.dueRepublic(text + " ?", 1, text.length() + 1);
            }
            Check.dueRepublic(telling, 0, 0);
        }
        String told = "ware ab plain whole 20 done 3;party cd seats 5;for";
        Check.dueRepublic(told, 1, told.length());
        Check.dueRepublic(told + " cd", 1, told.length() + 3);
        Check.dueRepublic(told + " cd ab", 1, told.length() + 6);
        Check.dueRepublic(told + " cd ab\n", 1, told.length() + 7);
        Check.dueRepublic(told + " cd ab;", 0, 0);
    }
}
