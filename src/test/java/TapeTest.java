/** Promises 1 and 2, and the tape of 3, 4 and 37. */
public final class TapeTest {
    public static void main(String[] args) {
        newObject();
        signs();
        limit();
        takenByReading();
        readme();
        Check.end();
    }

    private static void newObject() {
        HalfShop x = new HalfShop();
        for (int what = 0; what <= 12; what++) {
            Check.due("new count(" + what + ")", x.count(what), what == 2 ? 2 : 0);
        }
        Check.due("new ware", x.ware(0, 0), -1);
        Check.due("new party", x.party(0, 0), -1);
        Check.due("new undo", x.undo(), false);
        Check.due("new mark back", x.mark(0, true), false);
        Check.due("new judged 1", x.judged(1), -1);
        Check.due("new week", x.week(), 0);
    }

    private static void signs() {
        HalfShop x = new HalfShop();
        Check.due("highest first", x.feed(Check.bytes("fine 7;", 0), 0, 0), 7);
        Check.due("republic", x.republic(), 0);
        Check.due("fine", x.count(2), 7);
        Check.due("a, b, c", x.feed(Check.bytes("fi", 0), Check.bytes("ne", 0), Check.bytes(" 3;", 0)), 7);
        Check.due("republic", x.republic(), 0);
        Check.due("fine", x.count(2), 3);
        Check.due("only 10, 32 and 126", x.feed(0x0A091F207E7F80FFL, 0, -1L), 3);
        Check.due("count(12)", x.count(12), 3);
        Check.due("tilde", x.republic(), 1 + 16 * 2);
        Check.due("negative", x.feed(0xFF66696E6520343BL, 0, 0), 7);
        Check.due("republic", x.republic(), 0);
        Check.due("fine", x.count(2), 4);
    }

    private static void limit() {
        HalfShop x = new HalfShop();
        long blanks = 0x2020202020202020L;
        for (int i = 1; i <= 41; i++) {
            Check.due("feed " + i, x.feed(blanks, blanks, blanks), 24 * i);
        }
        Check.due("feed to the limit", x.feed(blanks, Check.bytes("  fine 8", 0), Check.bytes(";fine 2;", 0)), 1000);
        Check.due("beyond", x.feed(blanks, blanks, blanks), 1000);
        Check.due("cut at 1,000", x.republic(), 1 + 16 * 1000);
        Check.due("fine", x.count(2), 2);
        for (int i = 1; i <= 41; i++) {
            x.feed(blanks, blanks, blanks);
        }
        Check.due("feed", x.feed(blanks, Check.bytes(" fine 8;", 0), Check.bytes(";fine 2;", 0)), 1000);
        Check.due("just cut behind a statement", x.republic(), 0);
        Check.due("fine", x.count(2), 8);
    }

    private static void takenByReading() {
        HalfShop x = new HalfShop();
        Check.put(x, "fine 5; ");
        Check.due("one sign more", x.feed(0x21L, 0, 0), 9);
        Check.due("republic", x.republic(), 1 + 16 * 8);
        Check.due("taken with a fault", x.count(12), 0);
        Check.due("all stays", x.count(2), 2);
        Check.put(x, "week;");
        Check.due("term", x.term(), 0);
        Check.due("taken", x.count(12), 0);
        Check.due("lines", x.count(9), 1);
        Check.due("an empty term", x.term(), 0);
        Check.due("lines", x.count(9), 0);
        Check.put(x, "fine 5;");
        Check.due("republic", x.republic(), 0);
        Check.due("an empty republic", x.republic(), 0);
        Check.due("its fine", x.count(2), 2);
    }

    private static void readme() {
        HalfShop x = new HalfShop();
        x.feed(0x7761726520612070L, 0x6c61696e2077686fL, 0x6c65203920646f6eL);
        x.feed(0x6520313b00000000L, 0, 0);
        Check.due("republic", x.republic(), 0);
        Check.due("when", x.when(0), 3);
        Check.due("week", x.week(), 0);
    }
}
