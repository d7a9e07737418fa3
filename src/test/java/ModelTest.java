import java.util.NoSuchElementException;
import java.util.Random;

/** Long runs of odd calls, on the class and on the slow model; every answer must be the same. */
public final class ModelTest {
    private static final int RUNS = 200;
    private static final int CALLS = 120;
    private static final int NO_SUCH = 77777777;
    private static final String[] KINDS = {"plain", "bridge", "letter", "clock"};
    private static final String[] WORDS = {"ware", "whole", "done", "party", "seats", "for", "fine", "works", "work",
        "stop", "join", "lend", "week", "plain", "letter", "not", "and", "or", "so", "half", "votes", "date", "a", "b",
        "p", "q", "wx", "longestof", "longesto", "(", ")", "<", "=", "+", "-", "*", ";", "0", "1", "7", "21", "41", "61",
        "9999", "00001", "A", "?", "_", ",", "{"};

    private final Random random;
    private final HalfShop shop = new HalfShop();
    private final Model model = new Model();
    private final StringBuilder told = new StringBuilder();

    private ModelTest(long seed) {
        random = new Random(seed);
    }

    public static void main(String[] args) {
        int runs = args.length > 0 ? Integer.parseInt(args[0]) : RUNS;
        for (int run = 0; run < runs; run++) {
            new ModelTest(run).run();
        }
        Check.end();
    }

    private void run() {
        read(republic(), true);
        for (int i = 0; i < CALLS; i++) {
            int kind = random.nextInt(100);
            if (kind < 2) {
                read(random.nextInt(3) == 0 ? broken(republic()) : republic(), true);
            } else if (kind < 8) {
                read(random.nextInt(3) == 0 ? broken(term()) : term(), false);
            } else if (kind < 45) {
                deed();
            } else {
                question();
            }
        }
    }

    private int pick(int least, int most) {
        return random.nextInt(40) == 0 ? odd() : least + random.nextInt(most - least + 1);
    }

    private int odd() {
        int[] odd = {-2, -1, 6, 7, 61, 201, 10000, Integer.MAX_VALUE, Integer.MIN_VALUE};
        return odd[random.nextInt(odd.length)];
    }

    private String republic() {
        StringBuilder s = new StringBuilder();
        int wares = random.nextInt(7);
        int parties = random.nextInt(6);
        int whole = 2 + random.nextInt(59);
        for (int i = 0; i < wares; i++) {
            int size = random.nextBoolean() ? whole : 2 + random.nextInt(59);
            s.append("ware ").append((char) ('a' + i)).append(' ').append(KINDS[random.nextInt(4)]).append(" whole ");
            s.append(size).append(" done ").append(random.nextInt(31)).append(";\n");
        }
        boolean even = random.nextBoolean();
        for (int i = 0; i < parties; i++) {
            int seats = random.nextInt(41);
            s.append("party ").append((char) ('p' + i)).append(" seats ").append(even ? seats / 4 * 2 : seats);
            s.append(";");
        }
        for (int p = 0; p < parties; p++) {
            for (int w = 0; w < wares; w++) {
                if (random.nextInt(5) < 2) {
                    s.append("for ").append((char) ('p' + p)).append(' ').append((char) ('a' + w)).append(" ;");
                }
            }
        }
        if (random.nextBoolean()) {
            s.append(" fine ").append(1 + random.nextInt(9)).append(';');
        }
        if (random.nextInt(4) > 0) {
            s.append("works ").append(choice(random.nextInt(40) == 0 ? 7 : 3)).append(';');
        }
        return s.toString();
    }

    private String choice(int depth) {
        String s = test(depth);
        for (int i = random.nextInt(6); i == 0; i = random.nextInt(4)) {
            s += (random.nextBoolean() ? " and " : " or ") + test(depth);
        }
        return s;
    }

    private String test(int depth) {
        int kind = random.nextInt(5);
        return kind == 0 ? sum(depth) + "<" + sum(depth) : kind == 1 ? sum(depth) + " = " + sum(depth) : sum(depth);
    }

    private String sum(int depth) {
        String s = part(depth);
        for (int i = random.nextInt(2); i == 0; i = random.nextInt(2)) {
            s += "+-*".charAt(random.nextInt(3)) + part(depth);
        }
        return s;
    }

    private String part(int depth) {
        int kind = random.nextInt(10);
        if (kind < 2 && depth > 0) {
            return "(" + choice(depth - 1) + ")";
        }
        if (kind == 2 && depth > 0) {
            return " not " + part(depth - 1);
        }
        String[] facts = {"so", "half", "votes", "date"};
        return kind < 7 ? facts[random.nextInt(4)] + " " : "" + random.nextInt(kind == 9 ? 9999 : 9);
    }

    private String term() {
        StringBuilder s = new StringBuilder();
        int wares = Math.max(1, shop.count(0));
        int parties = Math.max(1, shop.count(1));
        for (int i = random.nextInt(20) == 0 ? 43 : random.nextInt(25); i > 0; i--) {
            String a = (char) ('a' + random.nextInt(wares)) + " ";
            String b = (char) ('a' + random.nextInt(wares)) + " ";
            String p = (char) ('p' + random.nextInt(parties)) + " ";
            String q = (char) ('p' + random.nextInt(parties)) + " ";
            int n = random.nextInt(60) == 0 ? 21 : 1 + random.nextInt(20);
            switch (random.nextInt(6)) {
                case 0: s.append("work ").append(a).append(n); break;
                case 1: s.append("stop ").append(a).append(n); break;
                case 2: s.append(a.equals(b) ? "week" : "join " + a + b); break;
                case 3: s.append(p.equals(q) ? "week" : "lend " + p + q + n); break;
                case 4: s.append("work ").append(a).append("20"); break;
                default: s.append("week"); break;
            }
            s.append(';');
        }
        return s.toString();
    }

    private String broken(String text) {
        StringBuilder s = new StringBuilder(text);
        for (int i = random.nextInt(2); i >= 0; i--) {
            int at = random.nextInt(s.length() + 1);
            int to = Math.min(s.length(), at + random.nextInt(8));
            s.replace(at, random.nextBoolean() ? to : at, random.nextBoolean() ? word() : " " + word() + " ");
        }
        return s.toString();
    }

    private String word() {
        return WORDS[random.nextInt(WORDS.length)];
    }

    private void read(String text, boolean republic) {
        int feeds = 0;
        for (int from = 0; from < text.length(); from += 24) {
            long a = Check.bytes(text, from);
            long b = Check.bytes(text, from + 8);
            long c = Check.bytes(text, from + 16);
            same("feed " + feeds++, shop.feed(a, b, c), model.feed(a, b, c));
        }
        if (random.nextInt(30) == 0) {
            long a = random.nextLong();
            same("feed " + a, shop.feed(a, 0, a), model.feed(a, 0, a));
        }
        told.setLength(0);
        if (republic) {
            same("republic " + text, shop.republic(), model.republic());
        } else {
            same("term " + text, shop.term(), model.term());
        }
    }

    private void same(String call, int got, int want) {
        told.append(call).append(" -> ").append(want).append('\n');
        if (got != want) {
            System.out.println(told);
        }
        Check.due(call, got, want);
    }

    private void same(String call, boolean got, boolean want) {
        same(call, got ? 1 : 0, want ? 1 : 0);
    }

    private void deed() {
        int a = pick(0, Math.max(0, shop.count(0) - 1));
        int b = pick(0, Math.max(0, shop.count(0) - 1));
        int p = pick(0, Math.max(0, shop.count(1) - 1));
        int q = pick(0, Math.max(0, shop.count(1) - 1));
        int n = random.nextInt(20) == 0 ? random.nextInt(25) - 2 : 1 + random.nextInt(20);
        int m = random.nextInt(8) == 0 ? pick(-1, 4) : random.nextInt(4);
        boolean yes = random.nextBoolean();
        String with = " " + a + " " + b + " " + p + " " + q + " " + n + " " + m + " " + yes;
        switch (random.nextInt(13)) {
            case 0: case 1: same("work" + with, shop.work(a, n), model.work(a, n)); break;
            case 2: same("stop" + with, shop.stop(a, n), model.stop(a, n)); break;
            case 3: case 4: same("join" + with, shop.join(a, b), model.join(a, b)); break;
            case 5: case 6: same("lend" + with, shop.lend(p, q, n), model.lend(p, q, n)); break;
            case 7: case 8: same("week", shop.week(), model.week()); break;
            case 9: same("undo", shop.undo(), model.undo()); break;
            case 10: case 11: same("mark" + with, shop.mark(m, yes), model.mark(m, yes)); break;
            default:
                int weeks = random.nextInt(10) == 0 ? pick(-1, 32) : random.nextInt(31);
                same("say " + weeks + yes, shop.say(weeks, yes), model.say(weeks, yes));
                break;
        }
    }

    private void question() {
        int a = pick(0, Math.max(0, shop.count(0) - 1));
        int p = pick(0, Math.max(0, shop.count(1) - 1));
        int what = pick(0, 2);
        switch (random.nextInt(4)) {
            case 0: ofWares(a, what); break;
            case 1: ofParties(p, a, what); break;
            case 2: ahead(a, what); break;
            default: seen(a, p, what); break;
        }
    }

    private void ofWares(int a, int what) {
        int b = pick(0, Math.max(0, shop.count(0) - 1));
        int n = pick(0, 60);
        switch (random.nextInt(7)) {
            case 0: same("when " + a, shop.when(a), model.when(a)); break;
            case 1: same("caught " + a, shop.caught(a), model.caught(a)); break;
            case 2: same("joined " + a + " " + b, shop.joined(a, b), model.joined(a, b)); break;
            case 3: same("fines " + n, shop.fines(n), model.fines(n)); break;
            case 4: same("round", shop.round(), model.round()); break;
            case 5: same("most " + n + " " + what, shop.most(n, what), model.most(n, what)); break;
            default: same("judged " + what, shop.judged(what), model.judged(what)); break;
        }
    }

    private void ofParties(int p, int a, int what) {
        int n = pick(0, 90);
        switch (random.nextInt(10)) {
            case 0: same("ways " + n, shop.ways(n), model.ways(n)); break;
            case 1: same("pivot " + p, shop.pivot(p), model.pivot(p)); break;
            case 2: same("power " + p, shop.power(p), model.power(p)); break;
            case 3: same("core", shop.core(), model.core()); break;
            case 4: same("lean", shop.lean(), model.lean()); break;
            case 5: same("shift " + a + " " + what, shop.shift(a, what), model.shift(a, what)); break;
            case 6: same("rival " + p, shop.rival(p), model.rival(p)); break;
            case 7: same("friends", shop.friends(), model.friends()); break;
            case 8: same("bloc " + a, shop.bloc(a), model.bloc(a)); break;
            default: same("orphans", shop.orphans(), model.orphans()); break;
        }
    }

    private void ahead(int a, int what) {
        int weeks = pick(1, 6);
        int odds = pick(0, 10);
        int seed = pick(0, 9999);
        int many = pick(1, 99);
        switch (random.nextInt(4)) {
            case 0: same("wholes " + what, shop.wholes(what), model.wholes(what)); break;
            case 1: same("ask", shop.ask(), model.ask()); break;
            case 2:
                same("chance " + a + " " + weeks + " " + odds, shop.chance(a, weeks, odds),
                    model.chance(a, weeks, odds));
                break;
            default:
                same("terms " + seed + " " + many + " " + what, shop.terms(seed, many, what),
                    model.terms(seed, many, what));
                break;
        }
    }

    private void seen(int a, int p, int what) {
        int some = pick(-1, 13);
        int[] r = {pick(0, 9), pick(0, 9), pick(0, 9), pick(-2, 4)};
        switch (random.nextInt(4)) {
            case 0: same("count " + some, shop.count(some), model.count(some)); break;
            case 1: same("ware " + a + " " + some, shop.ware(a, some), model.ware(a, some)); break;
            case 2: same("party " + p + " " + what, shop.party(p, what), model.party(p, what)); break;
            default: same("rests", restsOfShop(r), restsOfModel(r)); break;
        }
    }

    private int restsOfShop(int[] r) {
        try {
            return shop.rests(r[0], r[1], r[2], r[3]);
        } catch (NoSuchElementException e) {
            return NO_SUCH;
        }
    }

    private int restsOfModel(int[] r) {
        try {
            return model.rests(r[0], r[1], r[2], r[3]);
        } catch (NoSuchElementException e) {
            return NO_SUCH;
        }
    }
}
