import java.util.ArrayDeque;
import java.util.ArrayList;
import java.util.Arrays;
import java.util.Deque;
import java.util.HashMap;
import java.util.HashSet;
import java.util.List;
import java.util.Map;
import java.util.NoSuchElementException;
import java.util.Set;
import java.util.TreeMap;
import java.util.regex.Matcher;
import java.util.regex.Pattern;

/** The document once more, slowly and another way, for tests that compare it with the class call by call. */
final class Model {
    private static final Set<String> RESERVED = new HashSet<>(Arrays.asList("ware", "whole", "done", "party", "seats",
        "for", "fine", "works", "work", "stop", "join", "lend", "week", "plain", "bridge", "letter", "clock", "not",
        "and", "or"));
    private static final List<String> KINDS = Arrays.asList("plain", "bridge", "letter", "clock");
    private static final Pattern TOKEN = Pattern.compile("[a-z]+|[0-9]+|[^ \n]");

    static final class Fault extends RuntimeException {
        private static final long serialVersionUID = 1;
        final int code;

        Fault(int kind, int place) {
            code = kind + 16 * place;
        }
    }

    /** A text's tokens; what is none is kept with the text "?". */
    static final class Text {
        final List<String> words = new ArrayList<>();
        final List<Integer> places = new ArrayList<>();
        int at = 0;

        Text(String s) {
            Matcher m = TOKEN.matcher(s);
            while (m.find()) {
                words.add(m.group().matches("[a-z]{1,8}|[0-9]{1,4}|[()<=+*;-]") ? m.group() : "?");
                places.add(m.start());
            }
            words.add("");
            places.add(s.length());
        }

        String peek() {
            return words.get(at);
        }

        boolean ended() {
            return peek().isEmpty();
        }

        Fault fault(int kind) {
            return new Fault(kind, places.get(at));
        }

        String next() {
            return words.get(at++);
        }

        void want(String word) {
            if (!peek().equals(word)) {
                throw fault(1);
            }
            at++;
        }

        int number(int least, int most) {
            if (!peek().matches("[0-9]+")) {
                throw fault(1);
            }
            int n = Integer.parseInt(peek());
            if (n < least || n > most) {
                throw fault(4);
            }
            at++;
            return n;
        }

        String name() {
            if (!peek().matches("[a-z]+") || RESERVED.contains(peek())) {
                throw fault(1);
            }
            return peek();
        }

        int named(List<String> names, int notThis) {
            int i = names.indexOf(name());
            if (i < 0) {
                throw fault(2);
            }
            if (i == notThis) {
                throw fault(3);
            }
            at++;
            return i;
        }
    }

    static final class Told {
        final List<String> wares = new ArrayList<>();
        final List<int[]> sizes = new ArrayList<>();
        final List<String> parties = new ArrayList<>();
        final List<Integer> seats = new ArrayList<>();
        final Set<String> causes = new HashSet<>();
        Integer fine;
        List<String> works;
        final Map<Integer, Integer> worked = new HashMap<>();
    }

    /** Done, seats, {week, fines, joins}. */
    static final class Now {
        int[] done;
        int[] seats;
        int week;
        int fines;
        int joins;

        Now copy() {
            Now n = new Now();
            n.done = done.clone();
            n.seats = seats.clone();
            n.week = week;
            n.fines = fines;
            n.joins = joins;
            return n;
        }
    }

    private StringBuilder tape = new StringBuilder();
    private Told told = new Told();
    private Now now = first();
    private List<String[]> term = new ArrayList<>();
    private List<Integer> said = new ArrayList<>();
    private Deque<Now> past = new ArrayDeque<>();
    private TreeMap<Integer, Object[]> marks = new TreeMap<>();

    private Now first() {
        Now n = new Now();
        n.done = new int[told.wares.size()];
        for (int i = 0; i < n.done.length; i++) {
            n.done[i] = Math.min(told.sizes.get(i)[2], half(i));
        }
        n.seats = told.seats.stream().mapToInt(i -> i).toArray();
        return n;
    }

    private int half(int ware) {
        return told.sizes.get(ware)[1] / 2;
    }

    private int fine() {
        return told.fine == null ? 2 : told.fine;
    }

    int feed(long... longs) {
        for (long l : longs) {
            for (int i = 7; i >= 0; i--) {
                int b = (int) (l >> 8 * i) & 255;
                if (tape.length() < 1000 && (b == 10 || b >= 32 && b < 127)) {
                    tape.append((char) b);
                }
            }
        }
        return tape.length();
    }

    int republic() {
        Text t = new Text(tape.toString());
        tape = new StringBuilder();
        Told draft = new Told();
        try {
            while (!t.ended()) {
                telling(t, draft);
                t.want(";");
            }
        } catch (Fault f) {
            return f.code;
        }
        told = draft;
        now = first();
        term = new ArrayList<>();
        said = new ArrayList<>();
        past = new ArrayDeque<>();
        marks = new TreeMap<>();
        return 0;
    }

    private static void telling(Text t, Told draft) {
        switch (t.peek()) {
            case "ware":
                if (draft.wares.size() == 6) {
                    throw t.fault(5);
                }
                t.next();
                String ware = newName(t, draft);
                int kind = KINDS.indexOf(t.peek());
                if (kind < 0) {
                    throw t.fault(1);
                }
                t.next();
                t.want("whole");
                int whole = t.number(2, 60);
                t.want("done");
                draft.sizes.add(new int[] {kind, whole, t.number(0, 30)});
                draft.wares.add(ware);
                return;
            case "party":
                if (draft.parties.size() == 5) {
                    throw t.fault(5);
                }
                t.next();
                String party = newName(t, draft);
                t.want("seats");
                draft.seats.add(t.number(0, 40));
                draft.parties.add(party);
                return;
            case "for":
                t.next();
                int p = t.named(draft.parties, -1);
                int w = t.named(draft.wares, -1);
                if (!draft.causes.add(p + " " + w)) {
                    t.at--;
                    throw t.fault(3);
                }
                return;
            case "fine":
                if (draft.fine != null) {
                    throw t.fault(3);
                }
                t.next();
                draft.fine = t.number(1, 9);
                return;
            case "works":
                if (draft.works != null) {
                    throw t.fault(3);
                }
                t.next();
                int from = t.at;
                new Sum(t, 0, 0, 0, 0).all(0);
                draft.works = new ArrayList<>(t.words.subList(from, t.at));
                return;
            default:
                throw t.fault(1);
        }
    }

    private static String newName(Text t, Told draft) {
        if (draft.wares.contains(t.name()) || draft.parties.contains(t.name())) {
            throw t.fault(3);
        }
        return t.next();
    }

    /** Reads an expression and says at once what comes of it. */
    static final class Sum {
        final Text t;
        final List<String> facts = Arrays.asList("so", "half", "votes", "date");
        final int[] values;

        Sum(Text t, int... values) {
            this.t = t;
            this.values = values;
        }

        int all(int depth) {
            int v = test(depth);
            while (t.peek().equals("and") || t.peek().equals("or")) {
                boolean and = t.next().equals("and");
                int w = test(depth);
                v = (and ? v != 0 & w != 0 : v != 0 | w != 0) ? 1 : 0;
            }
            return v;
        }

        int test(int depth) {
            int v = sum(depth);
            if (t.peek().equals("<")) {
                t.next();
                return v < sum(depth) ? 1 : 0;
            }
            if (t.peek().equals("=")) {
                t.next();
                return v == sum(depth) ? 1 : 0;
            }
            return v;
        }

        int sum(int depth) {
            int v = product(depth);
            while (t.peek().equals("+") || t.peek().equals("-")) {
                v += t.next().equals("+") ? product(depth) : -product(depth);
            }
            return v;
        }

        int product(int depth) {
            int v = part(depth);
            while (t.peek().equals("*")) {
                t.next();
                v *= part(depth);
            }
            return v;
        }

        int part(int depth) {
            String s = t.peek();
            boolean number = s.matches("[0-9]+");
            if (!number && !facts.contains(s) && !s.equals("not") && !s.equals("(")) {
                throw t.fault(1);
            }
            if (depth == 5) {
                throw t.fault(5);
            }
            t.next();
            if (s.equals("not")) {
                return part(depth + 1) == 0 ? 1 : 0;
            }
            if (s.equals("(")) {
                int v = all(depth + 1);
                t.want(")");
                return v;
            }
            return number ? Integer.parseInt(s) : values[facts.indexOf(s)];
        }
    }

    int term() {
        Text t = new Text(tape.toString());
        tape = new StringBuilder();
        List<String[]> lines = new ArrayList<>();
        try {
            while (!t.ended()) {
                if (!Arrays.asList("work", "stop", "join", "lend", "week").contains(t.peek())) {
                    throw t.fault(1);
                }
                if (lines.size() == 40) {
                    throw t.fault(5);
                }
                String deed = t.next();
                List<String> names = deed.equals("lend") ? told.parties : told.wares;
                int a = deed.equals("week") ? 0 : t.named(names, -1);
                int b = deed.equals("join") || deed.equals("lend") ? t.named(names, a) : 0;
                int n = deed.equals("week") || deed.equals("join") ? 0 : t.number(1, 20);
                t.want(";");
                lines.add(new String[] {deed, "" + a, "" + b, "" + n});
            }
        } catch (Fault f) {
            return f.code;
        }
        term = lines;
        return 0;
    }

    private boolean isWare(int ware) {
        return ware >= 0 && ware < told.wares.size();
    }

    private boolean isParty(int party) {
        return party >= 0 && party < told.parties.size();
    }

    private boolean isFor(int party, int ware) {
        return told.causes.contains(party + " " + ware);
    }

    private int votes(Now n, int ware) {
        int sum = 0;
        for (int p = 0; p < n.seats.length; p++) {
            sum += isFor(p, ware) ? n.seats[p] : 0;
        }
        return sum;
    }

    private int standing(Now n, int ware) {
        int all = Arrays.stream(n.seats).sum();
        return all == 0 ? 0 : Integer.compare(votes(n, ware) * 2, all) + 1;
    }

    int ware(int ware, int what) {
        if (!isWare(ware) || what < 0 || what > 5) {
            return -1;
        }
        return new int[] {told.sizes.get(ware)[0], told.sizes.get(ware)[1], now.done[ware], half(ware),
            votes(now, ware), standing(now, ware)}[what];
    }

    int party(int party, int what) {
        if (!isParty(party) || what < 0 || what > 1) {
            return -1;
        }
        int bits = 0;
        for (int w = 0; w < told.wares.size(); w++) {
            bits += isFor(party, w) ? 1 << w : 0;
        }
        return what == 0 ? now.seats[party] : bits;
    }

    private void keep() {
        past.addLast(now.copy());
        if (past.size() > 16) {
            past.removeFirst();
        }
    }

    /** One at a time, so that each that is beyond is fined. */
    private int doWork(Now n, int ware, int much) {
        int before = n.fines;
        for (int i = 0; i < much; i++) {
            if (n.done[ware] < half(ware)) {
                n.done[ware]++;
            } else {
                n.fines += fine();
            }
        }
        return n.fines - before;
    }

    private boolean doJoin(Now n, int a, int b) {
        boolean can = isWare(a) && isWare(b) && a != b && told.sizes.get(a)[1] == told.sizes.get(b)[1]
            && n.done[a] == half(a) && n.done[b] == half(b);
        if (can) {
            n.done[a] = 0;
            n.done[b] = 0;
            n.fines += 10 * fine();
            n.joins++;
        }
        return can;
    }

    private boolean doLend(Now n, int a, int b, int seats) {
        boolean can = isParty(a) && isParty(b) && a != b && seats >= 1 && seats <= 20 && n.seats[a] >= seats
            && n.seats[b] + seats <= 99;
        if (can) {
            n.seats[a] -= seats;
            n.seats[b] += seats;
        }
        return can;
    }

    private int law(int so, int half, int votes, int date) {
        if (told.works == null) {
            return 1;
        }
        int key = ((so * 32 + half) * 256 + votes) * 4096 + date;
        Integer known = told.worked.get(key);
        if (known == null) {
            Text t = new Text(String.join(" ", told.works));
            known = Math.max(0, Math.min(9, new Sum(t, so, half, votes, date).all(0)));
            told.worked.put(key, known);
        }
        return known;
    }

    private int doWeekAt(Now n, int ware) {
        int much = law(n.done[ware], half(ware), votes(n, ware), n.week);
        int lacks = half(ware) - n.done[ware];
        switch (told.sizes.get(ware)[0]) {
            case 1: return doWork(n, ware, much) + doWork(n, ware, much);
            case 2: return doWork(n, ware, Math.min(much, lacks - lacks / 2));
            case 3: return n.week % 2 == 1 ? 0 : doWork(n, ware, much);
            default: return doWork(n, ware, much);
        }
    }

    private int doWeek(Now n) {
        int sum = 0;
        for (int w = 0; w < n.done.length; w++) {
            sum += doWeekAt(n, w);
        }
        n.week++;
        return sum;
    }

    int work(int ware, int much) {
        if (!isWare(ware) || much < 1 || much > 20) {
            return -1;
        }
        keep();
        return doWork(now, ware, much);
    }

    int stop(int ware, int much) {
        if (!isWare(ware) || much < 1 || much > 20) {
            return -1;
        }
        keep();
        now.done[ware] = Math.max(0, now.done[ware] - much);
        return now.done[ware];
    }

    boolean join(int a, int b) {
        Now n = now.copy();
        boolean can = doJoin(n, a, b);
        if (can) {
            keep();
            now = n;
        }
        return can;
    }

    boolean lend(int a, int b, int seats) {
        Now n = now.copy();
        boolean can = doLend(n, a, b, seats);
        if (can) {
            keep();
            now = n;
        }
        return can;
    }

    int week() {
        keep();
        return doWeek(now);
    }

    boolean undo() {
        if (past.isEmpty()) {
            return false;
        }
        now = past.removeLast();
        return true;
    }

    int judged(int what) {
        if (what < 0 || what > 2) {
            return -2;
        }
        Now n = first();
        int cannot = -1;
        int fined = -1;
        for (int i = term.size() - 1; i >= 0; i--) {
            n = first();
            boolean can = true;
            int before = 0;
            for (int j = 0; j <= i; j++) {
                before = n.fines;
                can = doLine(n, term.get(j));
            }
            cannot = can ? cannot : i;
            fined = n.fines > before ? i : fined;
        }
        n = first();
        for (String[] line : term) {
            doLine(n, line);
        }
        return new int[] {cannot, fined, n.fines}[what];
    }

    private boolean doLine(Now n, String[] line) {
        int a = Integer.parseInt(line[1]);
        int b = Integer.parseInt(line[2]);
        int much = Integer.parseInt(line[3]);
        switch (line[0]) {
            case "work":
                doWork(n, a, much);
                return true;
            case "stop":
                n.done[a] = Math.max(0, n.done[a] - much);
                return true;
            case "join":
                return doJoin(n, a, b);
            case "lend":
                return doLend(n, a, b, much);
            default:
                doWeek(n);
                return true;
        }
    }

    int when(int ware) {
        Now n = now.copy();
        for (int i = 0; i <= 60 && isWare(ware); i++) {
            if (n.done[ware] == half(ware)) {
                return i;
            }
            doWeek(n);
        }
        return -1;
    }

    int caught(int ware) {
        Now n = now.copy();
        for (int i = 1; i <= 60 && isWare(ware); i++) {
            if (doWeekAt(n.copy(), ware) > 0) {
                return i;
            }
            doWeek(n);
        }
        return -1;
    }

    int joined(int a, int b) {
        Now n = now.copy();
        for (int i = 0; i <= 60; i++) {
            if (doJoin(n.copy(), a, b)) {
                return i;
            }
            doWeek(n);
        }
        return -1;
    }

    int fines(int weeks) {
        if (weeks < 1 || weeks > 60) {
            return -1;
        }
        Now n = now.copy();
        for (int i = 0; i < weeks; i++) {
            doWeek(n);
        }
        return n.fines - now.fines;
    }

    int round() {
        int ordered = 0;
        for (int a = 0; a < 6; a++) {
            for (int b = 0; b < 6; b++) {
                ordered += doJoin(now.copy(), a, b) ? 1 : 0;
            }
        }
        return ordered / 2;
    }

    int most(int work, int what) {
        if (work < 0 || work > 200 || what < 0 || what > 2) {
            return -1;
        }
        List<int[]> found = new ArrayList<>();
        for (int set = 0; set < 1 << told.wares.size(); set++) {
            int much = 0;
            int then = 0;
            for (int w = 0; w < told.wares.size(); w++) {
                int lacks = half(w) - now.done[w];
                boolean in = (set >> w & 1) == 1;
                much += in ? lacks : 0;
                then += in || lacks == 0 ? 1 << w : 0;
            }
            if (much <= work) {
                found.add(new int[] {Integer.bitCount(then), much, then});
            }
        }
        found.sort((x, y) -> x[0] != y[0] ? y[0] - x[0] : x[1] != y[1] ? x[1] - y[1] : x[2] - y[2]);
        return found.get(0)[what];
    }

    private int seatsOf(int set) {
        int sum = 0;
        for (int p = 0; p < now.seats.length; p++) {
            sum += (set >> p & 1) * now.seats[p];
        }
        return sum;
    }

    private int sets() {
        return 1 << now.seats.length;
    }

    private boolean carries(int set) {
        return seatsOf(set) > seatsOf(sets() - 1) / 2;
    }

    int ways(int seats) {
        if (seats < 0 || seats > 200) {
            return -1;
        }
        int[] ways = new int[600];
        ways[0] = 1;
        for (int s : now.seats) {
            for (int i = 599; i >= s; i--) {
                ways[i] += ways[i - s];
            }
        }
        return ways[seats];
    }

    int pivot(int party) {
        if (!isParty(party)) {
            return -1;
        }
        int many = 0;
        for (int set = 0; set < sets(); set++) {
            many += (set >> party & 1) == 1 && carries(set) && !carries(set - (1 << party)) ? 1 : 0;
        }
        return many;
    }

    int power(int party) {
        double all = 0;
        for (int p = 0; p < now.seats.length; p++) {
            all += pivot(p);
        }
        return !isParty(party) || all == 0 ? -1 : (int) Math.floor(1e6 * pivot(party) / all + 1e-6);
    }

    int core() {
        int core = 0;
        for (int p = 0; p < now.seats.length; p++) {
            boolean needed = carries(sets() - 1);
            for (int set = 0; set < sets(); set++) {
                needed &= !carries(set) || (set >> p & 1) == 1;
            }
            core += needed ? 1 << p : 0;
        }
        return core;
    }

    int lean() {
        for (int many = 0; many <= 5; many++) {
            for (int set = 0; set < sets(); set++) {
                if (Integer.bitCount(set) == many && carries(set)) {
                    return set;
                }
            }
        }
        return -1;
    }

    int shift(int ware, int what) {
        if (!isWare(ware) || what < 0 || what > 2) {
            return -2;
        }
        if (standing(now, ware) == 1) {
            return what == 0 ? 0 : -1;
        }
        int[] best = null;
        for (int a = 0; a < 5; a++) {
            for (int b = 0; b < 5; b++) {
                for (int seats = 1; seats <= 20; seats++) {
                    Now n = now.copy();
                    if (doLend(n, a, b, seats) && standing(n, ware) == 1 && (best == null || seats < best[0])) {
                        best = new int[] {seats, a, b};
                    }
                }
            }
        }
        return best == null ? -2 : best[what];
    }

    int rival(int party) {
        int[] best = {99, -1};
        for (int p = now.seats.length - 1; p >= 0 && isParty(party); p--) {
            int agreed = 0;
            for (int w = 0; w < told.wares.size(); w++) {
                agreed += isFor(p, w) == isFor(party, w) ? 1 : 0;
            }
            if (p != party && agreed <= best[0]) {
                best = new int[] {agreed, p};
            }
        }
        return best[1];
    }

    int friends() {
        int many = 0;
        for (int p = 0; p < now.seats.length; p++) {
            for (int q = 0; q < p; q++) {
                many += party(p, 1) == party(q, 1) ? 1 : 0;
            }
        }
        return many;
    }

    int bloc(int ware) {
        int set = 0;
        for (int p = 0; p < 5; p++) {
            set += isFor(p, ware) ? 1 << p : 0;
        }
        return isWare(ware) ? set : -1;
    }

    int orphans() {
        int set = 0;
        for (int w = 0; w < told.wares.size(); w++) {
            boolean orphan = true;
            for (int p = 0; p < now.seats.length; p++) {
                orphan &= !(isFor(p, w) && now.seats[p] > 0);
            }
            set += orphan ? 1 << w : 0;
        }
        return set;
    }

    boolean say(int weeks, boolean half) {
        if (weeks < 0 || weeks > 30 || said.size() == 8) {
            return false;
        }
        said.add(half ? weeks : -1 - weeks);
        return true;
    }

    private boolean isHalfBehind(int whole, int weeks) {
        int so = 0;
        for (int i = 0; i < weeks; i++) {
            so = Math.min(whole / 2, so + law(so, whole / 2, 0, now.week + i));
        }
        return so == whole / 2;
    }

    private List<Integer> possible() {
        List<Integer> found = new ArrayList<>();
        for (int whole = 2; whole <= 60; whole++) {
            boolean so = true;
            for (int s : said) {
                so &= s >= 0 ? isHalfBehind(whole, s) : !isHalfBehind(whole, -1 - s);
            }
            if (so) {
                found.add(whole);
            }
        }
        return found;
    }

    int wholes(int what) {
        List<Integer> found = possible();
        if (what == 0) {
            return found.size();
        }
        return what < 0 || what > 2 || found.isEmpty() ? -1 : found.get(what == 1 ? 0 : found.size() - 1);
    }

    int ask() {
        List<Integer> found = possible();
        int best = -1;
        int least = found.size();
        for (int weeks = 30; weeks >= 0; weeks--) {
            int half = 0;
            for (int whole : found) {
                half += isHalfBehind(whole, weeks) ? 1 : 0;
            }
            int worse = Math.max(half, found.size() - half);
            if (worse < found.size() && worse <= least) {
                best = weeks;
                least = worse;
            }
        }
        return best;
    }

    int chance(int ware, int weeks, int odds) {
        if (!isWare(ware) || weeks < 1 || weeks > 6 || odds < 0 || odds > 10) {
            return -1;
        }
        long sum = 0;
        for (int idle = 0; idle < 1 << weeks; idle++) {
            Now n = now.copy();
            long weight = 1;
            int fined = 0;
            for (int i = 0; i < weeks; i++) {
                boolean works = (idle >> i & 1) == 0;
                fined += works ? doWeekAt(n, ware) : 0;
                n.week++;
                weight *= works ? 10 - odds : odds;
            }
            sum += fined > 0 ? weight : 0;
        }
        return (int) (sum * 1000000 / (long) Math.pow(10, weeks));
    }

    int rests(int lose, int goes, int stays, int what) {
        if (Math.min(lose, Math.min(goes, stays)) < 0 || Math.max(lose, Math.max(goes, stays)) > 9) {
            throw new NoSuchElementException();
        }
        List<Integer> found = new ArrayList<>();
        if (goes == 0) {
            found.add(0);
        }
        found.add(1);
        found.add(2);
        if (-lose >= stays) {
            found.add(3);
        }
        if (what < -1 || what >= found.size()) {
            throw new NoSuchElementException();
        }
        return what == -1 ? found.size() : found.get(what);
    }

    private long g;

    private int draw(int below) {
        g = g * 1103515245 + 12345 & 0x7FFFFFFF;
        return (int) (g >> 16) % below;
    }

    int terms(int seed, int weeks, int what) {
        if (seed < 0 || seed > 9999 || weeks < 1 || weeks > 99 || what < 0 || what > 2) {
            return -1;
        }
        g = seed;
        Now n = now.copy();
        int wares = told.wares.size();
        for (int i = 0; i < weeks; i++) {
            if (wares > 0) {
                int ware = draw(wares);
                switch (draw(5)) {
                    case 0:
                        n.done[ware] = Math.max(0, n.done[ware] - draw(20) - 1);
                        break;
                    case 1:
                        doWork(n, ware, draw(20) + 1);
                        break;
                    case 2:
                        doJoin(n, ware, draw(wares));
                        break;
                    default:
                        break;
                }
            }
            doWeek(n);
        }
        return new int[] {n.fines - now.fines, n.joins - now.joins, Arrays.stream(n.done).sum()}[what];
    }

    boolean mark(int mark, boolean back) {
        if (mark < 0 || mark > 3 || back && !marks.containsKey(mark)) {
            return false;
        }
        if (!back) {
            marks.put(mark, new Object[] {now.copy(), term, new ArrayList<>(said)});
            return true;
        }
        Object[] held = marks.get(mark);
        now = ((Now) held[0]).copy();
        term = lines(held[1]);
        said = weeks(held[2]);
        past.clear();
        return true;
    }

    @SuppressWarnings("unchecked")
    private static List<String[]> lines(Object o) {
        return (List<String[]>) o;
    }

    @SuppressWarnings("unchecked")
    private static List<Integer> weeks(Object o) {
        return new ArrayList<>((List<Integer>) o);
    }

    int count(int what) {
        int halves = 0;
        for (int w = 0; w < now.done.length; w++) {
            halves += now.done[w] == half(w) ? 1 << w : 0;
        }
        int[] all = {told.wares.size(), told.parties.size(), fine(), now.week, now.fines,
            Arrays.stream(now.done).sum(), halves, Arrays.stream(now.seats).sum(), now.joins, term.size(), said.size(),
            past.size(), tape.length()};
        return what < 0 || what >= all.length ? -1 : all[what];
    }
}
