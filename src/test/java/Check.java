import java.util.NoSuchElementException;
import java.util.function.Supplier;
import java.util.function.ToIntFunction;

/** What the tests share: counting wrong answers, feeding texts, reading them. */
final class Check {
    private static int wrong = 0;
    private static int looked = 0;

    private Check() {
    }

    static void due(String call, long got, long want) {
        looked++;
        if (got != want) {
            wrong++;
            System.out.println(call + " answered " + got + ", due is " + want);
        }
    }

    static void due(String call, boolean got, boolean want) {
        due(call, got ? 1 : 0, want ? 1 : 0);
    }

    static void dueNoSuch(HalfShop x, int lose, int goes, int stays, int what) {
        String call = "rests(" + lose + ", " + goes + ", " + stays + ", " + what + ")";
        boolean thrown = false;
        try {
            x.rests(lose, goes, stays, what);
        } catch (NoSuchElementException e) {
            thrown = true;
        }
        due(call + " throws", thrown, true);
    }

    /** Puts a text on the tape, 24 signs a call; answers what the last feed answered. */
    static int put(HalfShop x, String text) {
        int answer = x.count(12);
        for (int from = 0; from < text.length(); from += 24) {
            answer = x.feed(bytes(text, from), bytes(text, from + 8), bytes(text, from + 16));
        }
        return answer;
    }

    static long bytes(String text, int from) {
        long sum = 0;
        for (int i = from; i < from + 8; i++) {
            sum = sum << 8 | (i < text.length() ? text.charAt(i) & 255 : 0);
        }
        return sum;
    }

    static int republic(HalfShop x, String text) {
        put(x, text);
        return x.republic();
    }

    static int term(HalfShop x, String text) {
        put(x, text);
        return x.term();
    }

    static HalfShop shop(String text) {
        HalfShop x = new HalfShop();
        due("republic " + text, republic(x, text), 0);
        return x;
    }

    static void dueRepublic(String text, int kind, int place) {
        due("republic " + text, republic(new HalfShop(), text), kind + 16 * place);
    }

    static void dueTerm(HalfShop x, String text, int kind, int place) {
        due("term " + text, term(x, text), kind + 16 * place);
    }

    /** All that the face shows of the state, to see whether a call has changed it. */
    static String view(HalfShop x) {
        StringBuilder s = new StringBuilder();
        for (int what = 0; what <= 12; what++) {
            s.append(x.count(what)).append(' ');
        }
        for (int ware = 0; ware < x.count(0); ware++) {
            for (int what = 0; what <= 5; what++) {
                s.append(x.ware(ware, what)).append(' ');
            }
        }
        for (int party = 0; party < x.count(1); party++) {
            s.append(x.party(party, 0)).append(' ').append(x.party(party, 1)).append(' ');
        }
        for (int what = 0; what <= 2; what++) {
            s.append(x.judged(what)).append(' ').append(x.wholes(what)).append(' ');
        }
        return s.toString();
    }

    /** All that can be seen and gone back to: the state, each undo, each mark, what stands on the tape. Uses x up. */
    static String deepView(HalfShop x) {
        StringBuilder s = new StringBuilder(view(x));
        for (int i = 0; i < 20 && x.undo(); i++) {
            s.append("| undo ").append(view(x));
        }
        for (int mark = 0; mark <= 3; mark++) {
            if (x.mark(mark, true)) {
                s.append("| mark ").append(mark).append(' ').append(view(x));
            }
        }
        s.append("| week ").append(x.week()).append(' ').append(x.fines(60));
        put(x, ";");
        s.append("| tape ").append(x.republic()).append(' ').append(x.count(2));
        return s.toString();
    }

    /** A call that is refused: its answer, and that all is then as on a twin on which it was not made. */
    static void refused(String call, Supplier<HalfShop> made, ToIntFunction<HalfShop> asked, int want) {
        HalfShop x = made.get();
        due(call, asked.applyAsInt(x), want);
        due(call + ": all stays", deepView(x).equals(deepView(made.get())), true);
    }

    static int bit(boolean answer) {
        return answer ? 1 : 0;
    }

    static void end() {
        System.out.println(looked + " answers, " + wrong + " wrong");
        if (wrong != 0 || looked == 0) {
            System.exit(1);
        }
    }
}
