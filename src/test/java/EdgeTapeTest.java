/** Promises 1 and 2 at their edges: a new object, the signs of the tape, its thousandth sign, what takes it. */
public final class EdgeTapeTest {
    private static final long BLANKS = 0x2020202020202020L;

    public static void main(String[] args) {
        nothingAtFirst();
        nothingOfAnythingAtFirst();
        everyByte();
        everyPlaceOfTheThree();
        highestFirst();
        theThousandth();
        cutWithinOneFeed();
        leftOutSignsTakeNoRoom();
        fullAndReadAndFullAgain();
        takenByRepublic();
        takenByTerm();
        Check.end();
    }

    // "HalfShop(): Nothing." "At first: nothing."
    private static void nothingAtFirst() {
        HalfShop x = new HalfShop();
        for (int what = 0; what <= 12; what++) {
            Check.due("new count(" + what + ")", x.count(what), what == 2 ? 2 : 0);
        }
        Check.due("new judged(0)", x.judged(0), -1);
        Check.due("new judged(1)", x.judged(1), -1);
        Check.due("new judged(2)", x.judged(2), 0);
        Check.due("new fines(60)", x.fines(60), 0);
        Check.due("new round", x.round(), 0);
        for (int what = 0; what <= 2; what++) {
            Check.due("new most(200, " + what + ")", x.most(200, what), 0);
            Check.due("new terms(9999, 99, " + what + ")", x.terms(9999, 99, what), 0);
        }
        Check.due("new ways(0), the empty set", x.ways(0), 1);
        Check.due("new ways(1)", x.ways(1), 0);
        Check.due("new core", x.core(), 0);
        Check.due("new lean", x.lean(), -1);
        Check.due("new friends", x.friends(), 0);
        Check.due("new orphans", x.orphans(), 0);
        Check.due("new wholes(0)", x.wholes(0), 59);
        Check.due("new wholes(1)", x.wholes(1), 2);
        Check.due("new wholes(2)", x.wholes(2), 60);
        Check.due("new ask", x.ask(), 15);
        Check.due("new rests", x.rests(1, 1, 1, HalfShop.NONE), 2);
        Check.due("new undo", x.undo(), false);
        for (int mark = 0; mark <= 3; mark++) {
            Check.due("new mark(" + mark + ", true)", x.mark(mark, true), false);
        }
    }

    private static void nothingOfAnythingAtFirst() {
        HalfShop x = new HalfShop();
        for (int what = 0; what <= 5; what++) {
            Check.due("new ware", x.ware(0, what), -1);
        }
        Check.due("new party 0", x.party(0, 0), -1);
        Check.due("new party 1", x.party(0, 1), -1);
        Check.due("new work", x.work(0, 1), -1);
        Check.due("new stop", x.stop(0, 1), -1);
        Check.due("new join", x.join(0, 1), false);
        Check.due("new lend", x.lend(0, 1, 1), false);
        Check.due("new when", x.when(0), -1);
        Check.due("new caught", x.caught(0), -1);
        Check.due("new joined", x.joined(0, 1), -1);
        Check.due("new pivot", x.pivot(0), -1);
        Check.due("new power", x.power(0), -1);
        Check.due("new shift", x.shift(0, 0), -2);
        Check.due("new rival", x.rival(0), -1);
        Check.due("new bloc", x.bloc(0), -1);
        Check.due("new chance", x.chance(0, 1, 0), -1);
        Check.due("nothing can be undone", x.count(11), 0);
        Check.due("a week all the same", x.week(), 0);
        Check.due("that can be undone", x.undo(), true);
    }

    // "the TAPE has at most 1,000 signs, 10 and 32 .. 126"; "others than 10 and 32 .. 126 .. are left out"
    private static void everyByte() {
        for (int b = 0; b <= 255; b++) {
            boolean sign = b == 10 || b >= 32 && b <= 126;
            HalfShop x = new HalfShop();
            Check.due("byte " + b, x.feed((long) b << 56, 0, 0), sign ? 1 : 0);
            Check.due("byte " + b + " counted", x.count(12), sign ? 1 : 0);
            Check.due("byte " + b + " lowest", x.feed(0, 0, b), sign ? 2 : 0);
        }
        Check.due("all bits", new HalfShop().feed(-1, -1, -1), 0);
        Check.due("no bits", new HalfShop().feed(0, 0, 0), 0);
        Check.due("the least", new HalfShop().feed(Long.MIN_VALUE, Long.MIN_VALUE, Long.MIN_VALUE), 0);
        Check.due("all 24", new HalfShop().feed(BLANKS, BLANKS, BLANKS), 24);
    }

    // "the bytes of a, b, c, of each the highest first": where a sign stands is seen by its fault's place.
    private static void everyPlaceOfTheThree() {
        for (int place = 0; place < 24; place++) {
            StringBuilder s = new StringBuilder("                        ");
            s.setCharAt(place, '!');
            HalfShop x = new HalfShop();
            x.feed(Check.bytes(s.toString(), 0), Check.bytes(s.toString(), 8), Check.bytes(s.toString(), 16));
            Check.due("a sign at " + place, x.republic(), 1 + 16 * place);
        }
    }

    private static void highestFirst() {
        HalfShop x = new HalfShop();
        // 24 signs: "party ab", "cdefgh s", "eats 12;"
        Check.due("feed", x.feed(0x7061727479206162L, 0x6364656667682073L, 0x656174732031323BL), 24);
        Check.due("republic", x.republic(), 0);
        Check.due("seats", x.party(0, 0), 12);
        Check.due("behind what there is", x.feed(0x66L, 0x69L, 0x6E65L), 4);
        Check.due("behind what there is", x.feed(0x2000L, 0, 0x350000003B0000L), 7);
        Check.due("republic", x.republic(), 0);
        Check.due("fine", x.count(2), 5);
    }

    private static HalfShop blanks(int many) {
        HalfShop x = new HalfShop();
        int there = 0;
        for (; there + 24 <= many; there += 24) {
            x.feed(BLANKS, BLANKS, BLANKS);
        }
        for (; there < many; there++) {
            x.feed(0, 0, 32);
        }
        return x;
    }

    // "at most 1,000 signs": the thousandth is the last one.
    private static void theThousandth() {
        HalfShop x = blanks(999);
        Check.due("999", x.count(12), 999);
        Check.due("the thousandth", x.feed(0, 0, '!'), 1000);
        Check.due("is there", x.republic(), 1 + 16 * 999);
        HalfShop y = blanks(1000);
        Check.due("1,000", y.count(12), 1000);
        Check.due("one beyond", y.feed('!', 0, 0), 1000);
        Check.due("24 beyond", y.feed(BLANKS, BLANKS, BLANKS), 1000);
        Check.due("count", y.count(12), 1000);
        Check.due("is left out", y.republic(), 0);
        HalfShop z = blanks(993);
        Check.put(z, "fine 8;");
        Check.put(z, "!");
        Check.due("a telling that ends with the thousandth", z.republic(), 0);
        Check.due("its fine", z.count(2), 8);
        HalfShop cut = blanks(994);
        Check.put(cut, "fine 8;");
        Check.due("cut by one sign: the end is at 1,000", cut.republic(), 1 + 16 * 1000);
        Check.due("all stays", cut.count(2), 2);
    }

    private static void cutWithinOneFeed() {
        for (int room = 0; room <= 24; room++) {
            HalfShop x = blanks(1000 - room);
            String text = "fine 3;                 ".substring(0, 24);
            Check.due("room " + room, x.feed(Check.bytes(text, 0), Check.bytes(text, 8), Check.bytes(text, 16)), 1000);
            int fault = room == 0 || room >= 7 ? 0 : room < 4 ? 1 + 16 * (1000 - room) : 1 + 16 * 1000;
            Check.due("cut behind " + room, x.republic(), fault);
            Check.due("fine behind " + room, x.count(2), room >= 7 ? 3 : 2);
        }
    }

    private static void leftOutSignsTakeNoRoom() {
        HalfShop x = blanks(998);
        Check.due("two of eight", x.feed(0x00FF097F803B003BL, 0, 0), 1000);
        Check.due("at their place", x.republic(), 1 + 16 * 998);
        HalfShop y = blanks(999);
        Check.due("one is left out, one comes", y.feed(0x7F21000000000000L, 0, 0), 1000);
        Check.due("at its place", y.republic(), 1 + 16 * 999);
    }

    private static void fullAndReadAndFullAgain() {
        HalfShop x = blanks(1000);
        Check.due("republic", x.republic(), 0);
        Check.due("empty", x.count(12), 0);
        for (int i = 1; i <= 41; i++) {
            Check.due("anew", x.feed(BLANKS, BLANKS, BLANKS), 24 * i);
        }
        Check.due("full again", x.feed(BLANKS, BLANKS, BLANKS), 1000);
        Check.due("term", x.term(), 0);
        Check.due("empty again", x.count(12), 0);
    }

    // "what reads it takes it: it is empty then", with a fault and without one.
    private static void takenByRepublic() {
        HalfShop x = new HalfShop();
        Check.put(x, "fine 5;");
        Check.due("republic", x.republic(), 0);
        Check.due("taken", x.count(12), 0);
        Check.put(x, "fine 0;");
        Check.due("a fault", x.republic(), 4 + 16 * 5);
        Check.due("taken too", x.count(12), 0);
        Check.put(x, "fine 6;");
        Check.due("nothing of it is left", x.republic(), 0);
        Check.due("fine", x.count(2), 6);
        Check.due("an empty tape is an empty republic", x.republic(), 0);
        Check.due("fine", x.count(2), 2);
    }

    private static void takenByTerm() {
        HalfShop x = new HalfShop();
        Check.put(x, "week;");
        Check.due("term", x.term(), 0);
        Check.due("taken", x.count(12), 0);
        Check.put(x, "week;rest;");
        Check.due("a fault", x.term(), 1 + 16 * 5);
        Check.due("taken too", x.count(12), 0);
        Check.due("the term stays", x.count(9), 1);
        Check.due("an empty tape is an empty term", x.term(), 0);
        Check.due("lines", x.count(9), 0);
    }
}
