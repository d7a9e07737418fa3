/** Promises 30 to 32: the ware that nobody saw whole. */
public final class SaidTest {
    public static void main(String[] args) {
        nothingSaid();
        parted();
        limits();
        fromNowOn();
        without();
        Check.end();
    }

    private static void dueWholes(HalfShop x, int many, int least, int greatest, int ask) {
        Check.due("wholes many", x.wholes(0), many);
        Check.due("wholes least", x.wholes(1), least);
        Check.due("wholes greatest", x.wholes(2), greatest);
        Check.due("ask", x.ask(), ask);
    }

    private static void nothingSaid() {
        HalfShop x = new HalfShop();
        dueWholes(x, 59, 2, 60, 15);
        Check.due("what -1", x.wholes(-1), -1);
        Check.due("what 3", x.wholes(3), -1);
    }

    private static void parted() {
        HalfShop x = new HalfShop();
        Check.due("say", x.say(15, true), true);
        dueWholes(x, 30, 2, 31, 7);
        Check.due("say", x.say(7, false), true);
        dueWholes(x, 16, 16, 31, 11);
        Check.due("say", x.say(11, false), true);
        dueWholes(x, 8, 24, 31, 13);
        Check.due("say", x.say(13, true), true);
        dueWholes(x, 4, 24, 27, 12);
        Check.due("say", x.say(12, true), true);
        dueWholes(x, 2, 24, 25, -1);
        Check.due("said", x.count(10), 5);
        Check.due("say", x.say(12, false), true);
        dueWholes(x, 0, -1, -1, -1);
        HalfShop y = new HalfShop();
        y.say(29, false);
        dueWholes(y, 1, 60, 60, -1);
        HalfShop z = new HalfShop();
        z.say(0, true);
        dueWholes(z, 0, -1, -1, -1);
    }

    private static void limits() {
        HalfShop x = new HalfShop();
        Check.due("31", x.say(31, true), false);
        Check.due("-1", x.say(-1, true), false);
        Check.due("30", x.say(30, true), true);
        for (int i = 2; i <= 8; i++) {
            Check.due("say " + i, x.say(0, false), true);
        }
        Check.due("a ninth", x.say(0, false), false);
        Check.due("said", x.count(10), 8);
        dueWholes(x, 59, 2, 60, 15);
        Check.due("undo", x.undo(), false);
    }

    private static void fromNowOn() {
        HalfShop x = Check.shop("works date<3 or 20<date;");
        // From week 0 on 3 are done behind 3 weeks, no more before week 21; 12 behind 30.
        dueWholes(x, 59, 2, 60, 30);
        x.say(3, true);
        dueWholes(x, 6, 2, 7, 1);
        x.week();
        dueWholes(x, 4, 2, 5, 1);
        x.undo();
        dueWholes(x, 6, 2, 7, 1);
    }

    private static void without() {
        HalfShop x = Check.shop("ware a plain whole 60 done 0;party p seats 40;for p a;works votes+so+1;");
        // Without votes: 1, then 3, 7, 15, 24, 30.
        x.say(3, true);
        x.say(2, false);
        dueWholes(x, 8, 8, 15, -1);
        HalfShop h = Check.shop("works (half-so)*(10<half);");
        h.say(30, true);
        dueWholes(h, 39, 22, 60, 2);
        h.say(1, true);
        dueWholes(h, 0, -1, -1, -1);
    }
}
