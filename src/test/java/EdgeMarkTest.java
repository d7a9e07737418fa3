/** Promise 36 at its edges: four marks, what they hold, what they leave alone. */
public final class EdgeMarkTest {
    private static final String SHOP = "ware aa plain whole 20 done 9;ware bb plain whole 20 done 10;"
        + "party pp seats 10;party qq seats 5;for pp aa;fine 3;works 2;";

    public static void main(String[] args) {
        noneSuch();
        nothingOnIt();
        layingChangesNothing();
        holdsHowItIs();
        holdsTheTerm();
        holdsWhatIsSaid();
        holdsAnEmptyTermAndNothingSaid();
        nothingCanBeUndone();
        leavesTheTape();
        fourOfThem();
        laidAgain();
        staysWhenGoneBackTo();
        goneWithTheRepublic();
        Check.end();
    }

    // "MARKS 0 to 3"; "false: none such"
    private static void noneSuch() {
        for (int mark : new int[] {-1, 4, 5, Integer.MIN_VALUE, Integer.MAX_VALUE}) {
            HalfShop x = Check.shop(SHOP);
            x.week();
            Check.due("laid " + mark, x.mark(mark, false), false);
            Check.due("back " + mark, x.mark(mark, true), false);
            Check.due("all stays", x.count(3), 1);
            Check.due("all can be undone", x.count(11), 1);
        }
        HalfShop x = Check.shop(SHOP);
        for (int mark = 0; mark <= 3; mark++) {
            Check.due("laid " + mark, x.mark(mark, false), true);
            Check.due("back " + mark, x.mark(mark, true), true);
        }
    }

    // "nothing is on it (back)"
    private static void nothingOnIt() {
        HalfShop x = Check.shop(SHOP);
        x.week();
        for (int mark = 0; mark <= 3; mark++) {
            Check.due("back " + mark, x.mark(mark, true), false);
        }
        x.mark(1, false);
        Check.due("back 0", x.mark(0, true), false);
        Check.due("back 2", x.mark(2, true), false);
        Check.due("a refused one undoes nothing", x.count(11), 1);
        Check.due("week", x.count(3), 1);
        Check.due("undo", x.undo(), true);
        Check.due("back 1", x.mark(1, true), true);
        Check.due("week", x.count(3), 1);
    }

    private static HalfShop lived() {
        HalfShop x = Check.shop(SHOP);
        Check.term(x, "work aa 2;");
        x.say(5, true);
        x.work(0, 3);
        x.lend(0, 1, 4);
        return x;
    }

    private static void layingChangesNothing() {
        HalfShop x = lived();
        String before = Check.view(x);
        Check.due("laid", x.mark(0, false), true);
        Check.due("nothing changes", Check.view(x).equals(before), true);
        Check.due("what can be undone can be", x.undo(), true);
        Check.due("seats", x.party(0, 0), 10);
        Check.due("undo", x.undo(), true);
        Check.due("the mark is as it was laid", x.mark(0, true), true);
        Check.due("seats", x.party(0, 0), 6);
    }

    // "hold how it is": done, seats, week, fines, joined.
    private static void holdsHowItIs() {
        HalfShop x = lived();
        x.week();
        x.mark(0, false);
        String then = Check.view(x).replaceAll("^((\\S+ ){11})\\S+ ", "$1");
        x.stop(1, 3);
        x.work(1, 20);
        x.join(0, 1);
        x.lend(1, 0, 7);
        x.week();
        x.week();
        Check.due("back", x.mark(0, true), true);
        String now = Check.view(x).replaceAll("^((\\S+ ){11})\\S+ ", "$1");
        Check.due("as it was, but for what can be undone", now.equals(then), true);
        Check.due("week", x.count(3), 1);
        Check.due("fines", x.count(4), 3 * (2 + 2 + 2));
        Check.due("joined", x.count(8), 0);
        Check.due("seats", x.party(1, 0), 9);
        Check.due("done", x.ware(0, 2), 10);
        Check.due("the next week is the second one", x.week(), 12);
    }

    // "the TERM"
    private static void holdsTheTerm() {
        HalfShop x = lived();
        x.mark(0, false);
        Check.due("another term", Check.term(x, "week;week;join aa bb;"), 0);
        x.mark(1, false);
        Check.due("an empty term", x.term(), 0);
        Check.due("lines", x.count(9), 0);
        Check.due("back", x.mark(0, true), true);
        Check.due("lines", x.count(9), 1);
        Check.due("judged", x.judged(2), 3);
        Check.due("on", x.mark(1, true), true);
        Check.due("lines", x.count(9), 3);
        Check.due("judged", x.judged(2), 3 * (2 + 1 + 2 + 2) + 30);
        StringBuilder forty = new StringBuilder();
        for (int i = 0; i < 40; i++) {
            forty.append("week;");
        }
        Check.due("forty lines", Check.term(x, forty.toString()), 0);
        x.mark(2, false);
        x.term();
        x.mark(2, true);
        Check.due("lines", x.count(9), 40);
    }

    // "what is SAID"
    private static void holdsWhatIsSaid() {
        HalfShop x = lived();
        x.mark(0, false);
        int wholes = x.wholes(0);
        for (int i = 2; i <= 8; i++) {
            Check.due("say", x.say(0, false), true);
        }
        x.mark(1, false);
        Check.due("a ninth", x.say(0, false), false);
        x.mark(0, true);
        Check.due("said", x.count(10), 1);
        Check.due("wholes", x.wholes(0), wholes);
        Check.due("say", x.say(0, true), true);
        Check.due("none", x.wholes(0), 0);
        x.mark(1, true);
        Check.due("said", x.count(10), 8);
        Check.due("wholes", x.wholes(0), wholes);
        Check.due("a ninth", x.say(0, false), false);
    }

    private static void holdsAnEmptyTermAndNothingSaid() {
        HalfShop x = new HalfShop();
        Check.due("laid at first", x.mark(3, false), true);
        x.week();
        x.say(3, true);
        Check.term(x, "week;");
        Check.due("back", x.mark(3, true), true);
        Check.due("week", x.count(3), 0);
        Check.due("lines", x.count(9), 0);
        Check.due("said", x.count(10), 0);
    }

    // "(nothing can be undone when one is gone back to)"
    private static void nothingCanBeUndone() {
        HalfShop x = lived();
        x.mark(0, false);
        Check.due("two can be", x.count(11), 2);
        x.mark(0, true);
        Check.due("none can be", x.count(11), 0);
        Check.due("undo", x.undo(), false);
        Check.due("all stays", x.party(0, 0), 6);
        x.week();
        Check.due("but what is done then", x.count(11), 1);
        Check.due("undo", x.undo(), true);
        Check.due("week", x.count(3), 0);
        Check.due("seats", x.party(0, 0), 6);
        Check.due("no more", x.undo(), false);
        for (int i = 0; i < 17; i++) {
            x.week();
        }
        x.mark(0, true);
        for (int i = 0; i < 17; i++) {
            x.week();
        }
        for (int i = 16; i >= 1; i--) {
            Check.due("undo", x.undo(), true);
            Check.due("week", x.count(3), i);
        }
        Check.due("no more", x.undo(), false);
    }

    private static void leavesTheTape() {
        HalfShop x = lived();
        Check.put(x, "fine");
        x.mark(0, false);
        Check.put(x, " 8;");
        Check.due("back", x.mark(0, true), true);
        Check.due("signs", x.count(12), 7);
        Check.due("republic", x.republic(), 0);
        Check.due("fine", x.count(2), 8);
    }

    private static void fourOfThem() {
        HalfShop x = Check.shop(SHOP);
        for (int mark = 0; mark <= 3; mark++) {
            x.mark(mark, false);
            x.week();
        }
        for (int mark : new int[] {2, 0, 3, 1, 1, 0}) {
            Check.due("back " + mark, x.mark(mark, true), true);
            Check.due("week", x.count(3), mark);
        }
    }

    private static void laidAgain() {
        HalfShop x = Check.shop(SHOP);
        x.mark(2, false);
        x.week();
        Check.due("laid again", x.mark(2, false), true);
        x.week();
        Check.due("back", x.mark(2, true), true);
        Check.due("week", x.count(3), 1);
    }

    private static void staysWhenGoneBackTo() {
        HalfShop x = lived();
        x.mark(1, false);
        for (int i = 0; i < 3; i++) {
            x.week();
            x.say(i, true);
            Check.term(x, "week;week;");
            Check.due("back", x.mark(1, true), true);
            Check.due("week", x.count(3), 0);
            Check.due("said", x.count(10), 1);
            Check.due("lines", x.count(9), 1);
        }
    }

    // "no MARK is there" behind a REPUBLIC; behind a fault they are.
    private static void goneWithTheRepublic() {
        HalfShop x = Check.shop(SHOP);
        for (int mark = 0; mark <= 3; mark++) {
            x.mark(mark, false);
        }
        x.week();
        Check.due("a fault", Check.republic(x, "fine 0;"), 4 + 16 * 5);
        for (int mark = 0; mark <= 3; mark++) {
            Check.due("still there", x.mark(mark, true), true);
        }
        Check.due("republic", Check.republic(x, SHOP), 0);
        for (int mark = 0; mark <= 3; mark++) {
            Check.due("gone", x.mark(mark, true), false);
        }
        Check.due("laid anew", x.mark(0, false), true);
        Check.due("back", x.mark(0, true), true);
        Check.due("only that one", x.mark(1, true), false);
    }
}
