import java.util.NoSuchElementException;

/** A moderate republic, told in a small language, in whose shops nothing may be more than half done. */
public final class HalfShop {
    public static final int NONE = -1;

    private static final int OTHERS = -2;

    private static final int MAX_SIGNS = 1000;
    private static final int MAX_LETTERS = 8;
    private static final int MAX_DIGITS = 4;
    private static final int MAX_WARES = 6;
    private static final int MAX_PARTIES = 5;
    private static final int MAX_LINES = 40;
    private static final int MAX_DEPTH = 5;
    private static final int MAX_LOT = 20;
    private static final int MAX_SEATS = 99;
    private static final int MAX_PAST = 16;
    private static final int MAX_MARKS = 4;
    private static final int MAX_SAID = 8;
    private static final int MAX_AHEAD = 60;
    private static final int MAX_COUNTED = 200;
    private static final int MAX_STAKE = 9;
    private static final int MAX_SEED = 9999;
    private static final int MAX_TERM_WEEKS = 99;
    private static final int MAX_CHANCE_WEEKS = 6;
    private static final int MAX_ODDS = 10;

    private static final int LEAST_WHOLE = 2;
    private static final int GREATEST_WHOLE = 60;
    private static final int GREATEST_HALF = 30;
    private static final int MAX_SAID_WEEKS = 30;

    private static final int CANNOT_STAND = 1;
    private static final int NOT_TOLD = 2;
    private static final int TOLD_ALREADY = 3;
    private static final int WRONG_NUMBER = 4;
    private static final int TOO_MANY = 5;

    private static final int PLAIN = 0;
    private static final int BRIDGE = 1;
    private static final int LETTER = 2;
    private static final int CLOCK = 3;

    private static final int LOST = 0;
    private static final int HALVED = 1;
    private static final int CARRIED = 2;

    private static final int DO_WORK = 0;
    private static final int DO_STOP = 1;
    private static final int DO_JOIN = 2;
    private static final int DO_LEND = 3;
    private static final int DO_WEEK = 4;

    private final Tokens tokens;
    private final Reader reader;
    private Republic told;
    private Republic draft;
    private Term term;
    private Term draftTerm;
    private final State now;
    private final State trial;
    private final Said said;
    private final Assembly assembly;
    private final State[] past;
    private int pastCount;
    private int pastNext;
    private final Mark[] marks;

    public HalfShop() {
        tokens = new Tokens();
        reader = new Reader(tokens);
        told = new Republic();
        draft = new Republic();
        term = new Term();
        draftTerm = new Term();
        now = new State();
        trial = new State();
        said = new Said();
        assembly = new Assembly();
        past = new State[MAX_PAST];
        for (int i = 0; i < past.length; i++) {
            past[i] = new State();
        }
        marks = new Mark[MAX_MARKS];
        for (int i = 0; i < marks.length; i++) {
            marks[i] = new Mark();
        }
    }

    public int feed(long a, long b, long c) {
        tokens.putBytes(a);
        tokens.putBytes(b);
        tokens.putBytes(c);
        return tokens.length;
    }

    public int republic() {
        int fault = reader.readRepublic(draft);
        if (fault == 0) {
            settle();
        }
        return fault;
    }

    public int term() {
        int fault = reader.readTerm(told, draftTerm);
        if (fault == 0) {
            Term old = term;
            term = draftTerm;
            draftTerm = old;
        }
        return fault;
    }

    public int ware(int ware, int what) {
        if (!told.hasWare(ware)) {
            return NONE;
        }
        switch (what) {
            case 0: return told.kinds[ware];
            case 1: return told.wholes[ware];
            case 2: return now.done[ware];
            case 3: return told.halfOf(ware);
            case 4: return now.votesFor(told, ware);
            case 5: return standing(now.votesFor(told, ware), now.allSeats());
            default: return NONE;
        }
    }

    public int party(int party, int what) {
        if (!told.hasParty(party)) {
            return NONE;
        }
        switch (what) {
            case 0: return now.seats[party];
            case 1: return told.causes[party];
            default: return NONE;
        }
    }

    public int work(int ware, int much) {
        if (!told.hasWare(ware) || !isLot(much)) {
            return NONE;
        }
        keepPast();
        return now.workOn(told, ware, much);
    }

    public int stop(int ware, int much) {
        if (!told.hasWare(ware) || !isLot(much)) {
            return NONE;
        }
        keepPast();
        now.takeOff(ware, much);
        return now.done[ware];
    }

    public boolean join(int ware, int other) {
        if (!now.canJoin(told, ware, other)) {
            return false;
        }
        keepPast();
        now.arrest(told, ware, other);
        return true;
    }

    public boolean lend(int party, int other, int seats) {
        if (!isLot(seats) || !now.canLend(told, party, other, seats)) {
            return false;
        }
        keepPast();
        now.moveSeats(party, other, seats);
        return true;
    }

    public int week() {
        keepPast();
        return now.passWeek(told);
    }

    public boolean undo() {
        if (pastCount <= 0) {
            return false;
        }
        pastCount--;
        pastNext = Math.floorMod(pastNext - 1, MAX_PAST);
        now.copyOf(past[pastNext]);
        return true;
    }

    public int judged(int what) {
        if (what < 0 || what > 2) {
            return OTHERS;
        }
        trial.begin(told);
        int refused = NONE;
        int fined = NONE;
        for (int line = 0; line < term.lines; line++) {
            int before = trial.fines;
            boolean could = trial.follow(told, term, line);
            if (!could && refused == NONE) {
                refused = line;
            }
            if (trial.fines > before && fined == NONE) {
                fined = line;
            }
        }
        return what == 0 ? refused : what == 1 ? fined : trial.fines;
    }

    public int when(int ware) {
        return told.hasWare(ware) ? weeksToHalf(ware) : NONE;
    }

    public int caught(int ware) {
        if (!told.hasWare(ware)) {
            return NONE;
        }
        int half = told.halfOf(ware);
        int votes = now.votesFor(told, ware);
        int so = now.done[ware];
        for (int weeks = 1; weeks <= MAX_AHEAD; weeks++) {
            so += told.weekWork(told.kinds[ware], so, half, votes, now.week + weeks - 1);
            if (so > half) {
                return weeks;
            }
        }
        return NONE;
    }

    public int joined(int ware, int other) {
        if (!told.couldPair(ware, other)) {
            return NONE;
        }
        int first = weeksToHalf(ware);
        int second = weeksToHalf(other);
        return first == NONE || second == NONE ? NONE : Math.max(first, second);
    }

    public int fines(int weeks) {
        if (weeks < 1 || weeks > MAX_AHEAD) {
            return NONE;
        }
        trial.copyOf(now);
        int sum = 0;
        for (int i = 0; i < weeks; i++) {
            sum += trial.passWeek(told);
        }
        return sum;
    }

    public int round() {
        int pairs = 0;
        for (int i = 0; i < told.wares; i++) {
            for (int j = i + 1; j < told.wares; j++) {
                if (now.canJoin(told, i, j)) {
                    pairs++;
                }
            }
        }
        return pairs;
    }

    public int most(int work, int what) {
        if (work < 0 || work > MAX_COUNTED || what < 0 || what > 2) {
            return NONE;
        }
        int already = now.halfDone(told);
        int best = already;
        for (int set = 0; set < 1 << told.wares; set++) {
            boolean allowed = (set & already) == already && now.lackOf(told, set) <= work;
            if (allowed && isBetter(set, best)) {
                best = set;
            }
        }
        return what == 0 ? Integer.bitCount(best) : what == 1 ? now.lackOf(told, best) : best;
    }

    public int ways(int seats) {
        if (seats < 0 || seats > MAX_COUNTED) {
            return NONE;
        }
        assembly.meet(told.parties, now.seats);
        return assembly.setsOf(seats);
    }

    public int pivot(int party) {
        if (!told.hasParty(party)) {
            return NONE;
        }
        assembly.meet(told.parties, now.seats);
        return assembly.turnsBy(party);
    }

    public int power(int party) {
        if (!told.hasParty(party)) {
            return NONE;
        }
        assembly.meet(told.parties, now.seats);
        int all = 0;
        for (int i = 0; i < told.parties; i++) {
            all += assembly.turnsBy(i);
        }
        return all <= 0 ? NONE : 1000000 * assembly.turnsBy(party) / all;
    }

    public int core() {
        assembly.meet(told.parties, now.seats);
        return assembly.inEveryMajority();
    }

    public int lean() {
        assembly.meet(told.parties, now.seats);
        return assembly.leastMajority();
    }

    public int shift(int ware, int what) {
        if (!told.hasWare(ware) || what < 0 || what > 2) {
            return OTHERS;
        }
        if (standing(now.votesFor(told, ware), now.allSeats()) == HALVED) {
            return what == 0 ? 0 : NONE;
        }
        for (int seats = 1; seats <= MAX_LOT; seats++) {
            for (int from = 0; from < told.parties; from++) {
                for (int to = 0; to < told.parties; to++) {
                    if (now.wouldHalve(told, ware, from, to, seats)) {
                        return what == 0 ? seats : what == 1 ? from : to;
                    }
                }
            }
        }
        return OTHERS;
    }

    public int rival(int party) {
        if (!told.hasParty(party)) {
            return NONE;
        }
        int rival = NONE;
        int least = 0;
        for (int other = 0; other < told.parties; other++) {
            int agreed = told.agreement(party, other);
            if (other != party && (rival == NONE || agreed < least)) {
                rival = other;
                least = agreed;
            }
        }
        return rival;
    }

    public int friends() {
        int pairs = 0;
        for (int i = 0; i < told.parties; i++) {
            for (int j = i + 1; j < told.parties; j++) {
                if (told.causes[i] == told.causes[j]) {
                    pairs++;
                }
            }
        }
        return pairs;
    }

    public int bloc(int ware) {
        if (!told.hasWare(ware)) {
            return NONE;
        }
        int set = 0;
        for (int party = 0; party < told.parties; party++) {
            if (told.isFor(party, ware)) {
                set |= 1 << party;
            }
        }
        return set;
    }

    public int orphans() {
        int set = 0;
        for (int ware = 0; ware < told.wares; ware++) {
            if (now.votesFor(told, ware) == 0) {
                set |= 1 << ware;
            }
        }
        return set;
    }

    public boolean say(int weeks, boolean half) {
        if (weeks < 0 || weeks > MAX_SAID_WEEKS) {
            return false;
        }
        return said.put(weeks, half);
    }

    public int wholes(int what) {
        if (what < 0 || what > 2) {
            return NONE;
        }
        said.lookAhead(told, now.week);
        int many = 0;
        int least = NONE;
        int greatest = NONE;
        for (int whole = LEAST_WHOLE; whole <= GREATEST_WHOLE; whole++) {
            if (said.allows(whole / 2)) {
                many++;
                least = least == NONE ? whole : least;
                greatest = whole;
            }
        }
        return what == 0 ? many : what == 1 ? least : greatest;
    }

    public int ask() {
        said.lookAhead(told, now.week);
        return said.bestQuestion();
    }

    public int chance(int ware, int weeks, int odds) {
        boolean known = told.hasWare(ware) && weeks >= 1 && weeks <= MAX_CHANCE_WEEKS;
        if (!known || odds < 0 || odds > MAX_ODDS) {
            return NONE;
        }
        int tenths = finedWays(ware, now.done[ware], now.week, weeks, odds);
        for (int i = weeks; i < MAX_CHANCE_WEEKS; i++) {
            tenths *= 10;
        }
        return tenths;
    }

    public int rests(int lose, int goes, int stays, int what) throws NoSuchElementException {
        if (!isStake(lose) || !isStake(goes) || !isStake(stays)) {
            throw new NoSuchElementException("no such stair");
        }
        int many = 0;
        for (int pair = 0; pair < 4; pair++) {
            if (isAtRest(pair, lose, goes, stays)) {
                if (many == what) {
                    return pair;
                }
                many++;
            }
        }
        if (what != NONE) {
            throw new NoSuchElementException("no such rest");
        }
        return many;
    }

    public int terms(int seed, int weeks, int what) {
        boolean known = seed >= 0 && seed <= MAX_SEED && weeks >= 1 && weeks <= MAX_TERM_WEEKS;
        if (!known || what < 0 || what > 2) {
            return NONE;
        }
        trial.copyOf(now);
        long g = seed;
        for (int i = 0; i < weeks; i++) {
            g = drawDeed(g);
            trial.passWeek(told);
        }
        return what == 0 ? trial.fines - now.fines : what == 1 ? trial.joins - now.joins : trial.allDone();
    }

    public boolean mark(int mark, boolean back) {
        if (mark < 0 || mark >= marks.length) {
            return false;
        }
        Mark place = marks[mark];
        if (!back) {
            place.lay(now, term, said);
            return true;
        }
        if (!place.laid) {
            return false;
        }
        now.copyOf(place.state);
        term.copyOf(place.term);
        said.copyOf(place.said);
        pastCount = 0;
        return true;
    }

    public int count(int what) {
        switch (what) {
            case 0: return told.wares;
            case 1: return told.parties;
            case 2: return told.fine;
            case 3: return now.week;
            case 4: return now.fines;
            case 5: return now.allDone();
            case 6: return now.halfDone(told);
            case 7: return now.allSeats();
            case 8: return now.joins;
            case 9: return term.lines;
            case 10: return said.many;
            case 11: return pastCount;
            case 12: return tokens.length;
            default: return NONE;
        }
    }

    private void settle() {
        Republic old = told;
        told = draft;
        draft = old;
        now.begin(told);
        term.lines = 0;
        said.many = 0;
        pastCount = 0;
        for (int i = 0; i < marks.length; i++) {
            marks[i].laid = false;
        }
    }

    private void keepPast() {
        past[pastNext].copyOf(now);
        pastNext = Math.floorMod(pastNext + 1, MAX_PAST);
        pastCount = Math.min(pastCount + 1, MAX_PAST);
    }

    /** Weeks never take anything off, so the first week of being half done is the only one to look for. */
    private int weeksToHalf(int ware) {
        int half = told.halfOf(ware);
        int votes = now.votesFor(told, ware);
        int so = now.done[ware];
        for (int weeks = 0; weeks <= MAX_AHEAD; weeks++) {
            if (so >= half) {
                return weeks;
            }
            so += told.weekWork(told.kinds[ware], so, half, votes, now.week + weeks);
        }
        return NONE;
    }

    /** More wares, then less work; sets are tried upwards, so the least of equal ones came first. */
    private boolean isBetter(int set, int best) {
        int more = Integer.bitCount(set) - Integer.bitCount(best);
        return more > 0 || more == 0 && now.lackOf(told, set) < now.lackOf(told, best);
    }

    /** Of the ten to the power of left courses that the weeks left can take, those by which the ware is fined. */
    private int finedWays(int ware, int so, int date, int left, int odds) {
        if (left <= 0) {
            return 0;
        }
        int half = told.halfOf(ware);
        int idle = finedWays(ware, so, date + 1, left - 1, odds);
        int then = so + told.weekWork(told.kinds[ware], so, half, now.votesFor(told, ware), date);
        int worked = 1;
        if (then > half) {
            for (int i = 1; i < left; i++) {
                worked *= 10;
            }
        } else {
            worked = finedWays(ware, then, date + 1, left - 1, odds);
        }
        return odds * idle + (MAX_ODDS - odds) * worked;
    }

    private long drawDeed(long seed) {
        if (told.wares <= 0) {
            return seed;
        }
        long g = nextDraw(seed);
        int ware = drawn(g, told.wares);
        g = nextDraw(g);
        int deed = drawn(g, 5);
        if (deed > 2) {
            return g;
        }
        g = nextDraw(g);
        if (deed == 0) {
            trial.takeOff(ware, drawn(g, MAX_LOT) + 1);
        } else if (deed == 1) {
            trial.workOn(told, ware, drawn(g, MAX_LOT) + 1);
        } else {
            int other = drawn(g, told.wares);
            if (trial.canJoin(told, ware, other)) {
                trial.arrest(told, ware, other);
            }
        }
        return g;
    }

    private static long nextDraw(long g) {
        return (g * 1103515245L + 12345L) % 2147483648L;
    }

    private static int drawn(long g, int below) {
        return below <= 0 ? 0 : (int) (g / 65536L % below);
    }

    private static boolean isLot(int much) {
        return much >= 1 && much <= MAX_LOT;
    }

    private static boolean isStake(int much) {
        return much >= 0 && much <= MAX_STAKE;
    }

    private static boolean isAtRest(int pair, int lose, int goes, int stays) {
        int first = pair / 2;
        int second = pair % 2;
        return gain(first, second, lose, goes, stays) >= gain(1 - first, second, lose, goes, stays)
            && gain(second, first, lose, goes, stays) >= gain(1 - second, first, lose, goes, stays);
    }

    private static int gain(int mine, int his, int lose, int goes, int stays) {
        if (mine == 1) {
            return his == 1 ? -lose : goes;
        }
        return his == 1 ? stays : 0;
    }

    private static int standing(int votes, int all) {
        if (2 * votes > all) {
            return CARRIED;
        }
        return all > 0 && 2 * votes == all ? HALVED : LOST;
    }

    /** The words of the language; but for the facts, nothing may bear them as its name. */
    private enum Word {
        WARE("ware", true), WHOLE("whole", true), DONE("done", true), PARTY("party", true), SEATS("seats", true),
        FOR("for", true), FINE("fine", true), WORKS("works", true),
        WORK("work", true), STOP("stop", true), JOIN("join", true), LEND("lend", true), WEEK("week", true),
        PLAIN("plain", true), BRIDGE("bridge", true), LETTER("letter", true), CLOCK("clock", true),
        NOT("not", true), AND("and", true), OR("or", true),
        SO("so", false), HALF("half", false), VOTES("votes", false), DATE("date", false);

        private static final Word[] ALL = values();

        final long key;
        final boolean reserved;

        Word(String text, boolean reserved) {
            long sum = 0;
            for (int i = 0; i < text.length(); i++) {
                sum = withLetter(sum, text.charAt(i));
            }
            this.key = sum;
            this.reserved = reserved;
        }

        /** Five bits a letter: eight letters fit a long, so words are compared as numbers. */
        static long withLetter(long key, char letter) {
            return key * 32 + (letter - 'a' + 1);
        }

        static boolean isReserved(long key) {
            for (int i = 0; i < ALL.length; i++) {
                if (ALL[i].key == key) {
                    return ALL[i].reserved;
                }
            }
            return false;
        }
    }

    /** The tape, its tokens one by one, and the first fault found among them. */
    private static final class Tokens {
        private static final int NO_TOKEN = 0;
        private static final int END = 1;
        private static final int NUMBER = 2;
        private static final int WORD = 3;
        private static final int SIGN = 4;

        final char[] tape = new char[MAX_SIGNS];
        int length;
        int place;
        int next;
        int kind;
        int number;
        char sign;
        long key;
        int fault;

        void putBytes(long bytes) {
            for (int shift = 56; shift >= 0; shift -= 8) {
                putSign((char) (bytes >>> shift & 255));
            }
        }

        private void putSign(char c) {
            boolean known = c == 10 || c >= 32 && c <= 126;
            if (known && length >= 0 && length < tape.length) {
                tape[length] = c;
                length++;
            }
        }

        void begin() {
            fault = 0;
            next = 0;
            advance();
        }

        void clear() {
            length = 0;
        }

        void advance() {
            place = next;
            while (place < length && isBlank(tape[place])) {
                place++;
            }
            next = place + 1;
            if (place >= length) {
                next = place;
                kind = END;
            } else if (isLetter(tape[place])) {
                readWord();
            } else if (isDigit(tape[place])) {
                readNumber();
            } else {
                readSign();
            }
        }

        private void readWord() {
            key = 0;
            next = place;
            while (next < length && isLetter(tape[next])) {
                key = Word.withLetter(key, tape[next]);
                next++;
            }
            kind = next - place <= MAX_LETTERS ? WORD : NO_TOKEN;
        }

        private void readNumber() {
            number = 0;
            next = place;
            while (next < length && isDigit(tape[next])) {
                number = number * 10 + (tape[next] - '0');
                next++;
            }
            kind = next - place <= MAX_DIGITS ? NUMBER : NO_TOKEN;
        }

        private void readSign() {
            sign = tape[place];
            kind = "()<=+-*;".indexOf(sign) >= 0 ? SIGN : NO_TOKEN;
        }

        boolean wrong(int how) {
            if (fault == 0) {
                fault = how + 16 * place;
            }
            return false;
        }

        boolean atEnd() {
            return kind == END;
        }

        boolean isNumber() {
            return kind == NUMBER;
        }

        boolean isName() {
            return kind == WORD && !Word.isReserved(key);
        }

        boolean isWord(Word wanted) {
            return kind == WORD && key == wanted.key;
        }

        boolean isSign(char wanted) {
            return kind == SIGN && sign == wanted;
        }

        boolean takeWord(Word wanted) {
            if (!isWord(wanted)) {
                return wrong(CANNOT_STAND);
            }
            advance();
            return true;
        }

        boolean takeSign(char wanted) {
            if (!isSign(wanted)) {
                return wrong(CANNOT_STAND);
            }
            advance();
            return true;
        }

        /** The number, or NONE with a fault. */
        int takeNumber(int least, int most) {
            if (!isNumber()) {
                wrong(CANNOT_STAND);
                return NONE;
            }
            if (number < least || number > most) {
                wrong(WRONG_NUMBER);
                return NONE;
            }
            int taken = number;
            advance();
            return taken;
        }

        private static boolean isBlank(char c) {
            return c == 10 || c == 32;
        }

        private static boolean isLetter(char c) {
            return c >= 'a' && c <= 'z';
        }

        private static boolean isDigit(char c) {
            return c >= '0' && c <= '9';
        }
    }

    /** How one works: an expression in postfix order, numbers as they are, all else below 0. */
    private static final class Law {
        private static final int SO = -1;
        private static final int HALF = -2;
        private static final int VOTES = -3;
        private static final int DATE = -4;
        private static final int NOT = -5;
        private static final int AND = -6;
        private static final int OR = -7;
        private static final int LESS = -8;
        private static final int SAME = -9;
        private static final int PLUS = -10;
        private static final int MINUS = -11;
        private static final int TIMES = -12;

        final int[] code = new int[MAX_SIGNS];
        int length;

        // Each of the five depths keeps four operands waiting at most, so 21 are enough.
        final int[] stack = new int[32];

        void put(int step) {
            if (length >= 0 && length < code.length) {
                code[length] = step;
                length++;
            }
        }

        int value(int so, int half, int votes, int date) {
            if (length <= 0) {
                return 1;
            }
            int top = 0;
            for (int i = 0; i < length; i++) {
                int step = code[i];
                if (step < NOT && top >= 2) {
                    top--;
                    stack[top - 1] = combine(step, stack[top - 1], stack[top]);
                } else if (step == NOT && top >= 1) {
                    stack[top - 1] = truth(stack[top - 1] == 0);
                } else if (step > NOT && top < stack.length) {
                    stack[top] = step >= 0 ? step : fact(step, so, half, votes, date);
                    top++;
                }
            }
            return stack[0];
        }

        private static int fact(int step, int so, int half, int votes, int date) {
            switch (step) {
                case SO: return so;
                case HALF: return half;
                case VOTES: return votes;
                default: return date;
            }
        }

        private static int combine(int step, int left, int right) {
            switch (step) {
                case AND: return truth(left != 0 && right != 0);
                case OR: return truth(left != 0 || right != 0);
                case LESS: return truth(left < right);
                case SAME: return truth(left == right);
                case PLUS: return left + right;
                case MINUS: return left - right;
                default: return left * right;
            }
        }

        private static int truth(boolean so) {
            return so ? 1 : 0;
        }
    }

    /** Reads the expression of a law and leaves the tokens behind it. */
    private static final class LawReader {
        private static final int CHOICE = 0;
        private static final int TEST = 1;
        private static final int SUM = 2;
        private static final int PRODUCT = 3;

        private final Tokens tokens;

        LawReader(Tokens tokens) {
            this.tokens = tokens;
        }

        /** What binds looser holds what binds closer; the closest of all is a part. */
        private boolean readLevel(Law law, int level, int depth) {
            if (level > PRODUCT) {
                return readPart(law, depth);
            }
            boolean good = readLevel(law, level + 1, depth);
            int step = stepHere(level);
            for (int i = 0; i < MAX_SIGNS && good && step != 0; i++) {
                tokens.advance();
                good = readLevel(law, level + 1, depth);
                law.put(step);
                step = level == TEST ? 0 : stepHere(level);
            }
            return good;
        }

        private boolean readPart(Law law, int depth) {
            int fact = factHere();
            boolean not = tokens.isWord(Word.NOT);
            boolean open = tokens.isSign('(');
            if (fact == 0 && !not && !open && !tokens.isNumber()) {
                return tokens.wrong(CANNOT_STAND);
            }
            if (depth >= MAX_DEPTH) {
                return tokens.wrong(TOO_MANY);
            }
            if (not) {
                tokens.advance();
                boolean good = readPart(law, depth + 1);
                law.put(Law.NOT);
                return good;
            }
            if (open) {
                tokens.advance();
                if (!readLevel(law, CHOICE, depth + 1)) {
                    return false;
                }
                if (!tokens.isSign(')')) {
                    return tokens.wrong(CANNOT_STAND);
                }
            } else {
                law.put(fact == 0 ? tokens.number : fact);
            }
            tokens.advance();
            return true;
        }

        /** The operation of that level that stands here, 0 if none does. */
        private int stepHere(int level) {
            switch (level) {
                case CHOICE: return tokens.isWord(Word.AND) ? Law.AND : tokens.isWord(Word.OR) ? Law.OR : 0;
                case TEST: return tokens.isSign('<') ? Law.LESS : tokens.isSign('=') ? Law.SAME : 0;
                case SUM: return tokens.isSign('+') ? Law.PLUS : tokens.isSign('-') ? Law.MINUS : 0;
                default: return tokens.isSign('*') ? Law.TIMES : 0;
            }
        }

        private int factHere() {
            return tokens.isWord(Word.SO) ? Law.SO
                : tokens.isWord(Word.HALF) ? Law.HALF
                : tokens.isWord(Word.VOTES) ? Law.VOTES
                : tokens.isWord(Word.DATE) ? Law.DATE : 0;
        }
    }

    /** The republic as it was told; nothing that is done in it changes it. */
    private static final class Republic {
        int wares;
        final long[] wareNames = new long[MAX_WARES];
        final int[] kinds = new int[MAX_WARES];
        final int[] wholes = new int[MAX_WARES];
        final int[] firstDone = new int[MAX_WARES];
        int parties;
        final long[] partyNames = new long[MAX_PARTIES];
        final int[] firstSeats = new int[MAX_PARTIES];
        final int[] causes = new int[MAX_PARTIES];
        int fine = 2;
        boolean fineTold;
        boolean worksTold;
        final Law law = new Law();

        void clear() {
            wares = 0;
            parties = 0;
            fine = 2;
            fineTold = false;
            worksTold = false;
            law.length = 0;
        }

        boolean hasWare(int ware) {
            return ware >= 0 && ware < wares;
        }

        boolean hasParty(int party) {
            return party >= 0 && party < parties;
        }

        int wareNamed(long key) {
            for (int i = 0; i < wares; i++) {
                if (wareNames[i] == key) {
                    return i;
                }
            }
            return NONE;
        }

        int partyNamed(long key) {
            for (int i = 0; i < parties; i++) {
                if (partyNames[i] == key) {
                    return i;
                }
            }
            return NONE;
        }

        int halfOf(int ware) {
            return wholes[ware] / 2;
        }

        boolean isFor(int party, int ware) {
            return (causes[party] >> ware & 1) == 1;
        }

        boolean couldPair(int ware, int other) {
            return hasWare(ware) && hasWare(other) && ware != other && wholes[ware] == wholes[other];
        }

        int agreement(int party, int other) {
            return wares - Integer.bitCount(causes[party] ^ causes[other]);
        }

        /** How much is worked in a week at a ware of that kind of which so much is done. */
        int weekWork(int kind, int so, int half, int votes, int date) {
            if (kind == CLOCK && date % 2 != 0) {
                return 0;
            }
            int much = Math.max(0, Math.min(9, law.value(so, half, votes, date)));
            if (kind == BRIDGE) {
                return 2 * much;
            }
            return kind == LETTER ? Math.min(much, (half - so + 1) / 2) : much;
        }
    }

    /** The lines of a term: what is done, to whom or what, with which other one, how much. */
    private static final class Term {
        int lines;
        final int[] deeds = new int[MAX_LINES];
        final int[] firsts = new int[MAX_LINES];
        final int[] seconds = new int[MAX_LINES];
        final int[] amounts = new int[MAX_LINES];

        void put(int deed, int first, int second, int amount) {
            if (lines >= 0 && lines < MAX_LINES) {
                deeds[lines] = deed;
                firsts[lines] = first;
                seconds[lines] = second;
                amounts[lines] = amount;
                lines++;
            }
        }

        void copyOf(Term other) {
            lines = 0;
            for (int i = 0; i < other.lines; i++) {
                put(other.deeds[i], other.firsts[i], other.seconds[i], other.amounts[i]);
            }
        }
    }

    /** Reads the tape, statement by statement, and empties it. */
    private static final class Reader {
        private final Tokens tokens;
        private final LawReader laws;

        Reader(Tokens tokens) {
            this.tokens = tokens;
            this.laws = new LawReader(tokens);
        }

        int readRepublic(Republic draft) {
            tokens.begin();
            draft.clear();
            boolean good = true;
            for (int i = 0; i < MAX_SIGNS && good && !tokens.atEnd(); i++) {
                good = readTelling(draft) && tokens.takeSign(';');
            }
            tokens.clear();
            return tokens.fault;
        }

        int readTerm(Republic told, Term draft) {
            tokens.begin();
            draft.lines = 0;
            boolean good = true;
            for (int i = 0; i < MAX_SIGNS && good && !tokens.atEnd(); i++) {
                good = readLine(told, draft) && tokens.takeSign(';');
            }
            tokens.clear();
            return tokens.fault;
        }

        private boolean readTelling(Republic draft) {
            if (tokens.isWord(Word.WARE)) {
                return readWare(draft);
            }
            if (tokens.isWord(Word.PARTY)) {
                return readParty(draft);
            }
            if (tokens.isWord(Word.FOR)) {
                return readCause(draft);
            }
            if (tokens.isWord(Word.FINE)) {
                return readFine(draft);
            }
            return tokens.isWord(Word.WORKS) ? readWorks(draft) : tokens.wrong(CANNOT_STAND);
        }

        private boolean readWare(Republic draft) {
            int ware = draft.wares;
            if (ware >= MAX_WARES) {
                return tokens.wrong(TOO_MANY);
            }
            tokens.advance();
            long name = tokens.key;
            if (!takeNewName(draft) || !takeKind(draft, ware) || !tokens.takeWord(Word.WHOLE)) {
                return false;
            }
            int whole = tokens.takeNumber(LEAST_WHOLE, GREATEST_WHOLE);
            if (whole == NONE || !tokens.takeWord(Word.DONE)) {
                return false;
            }
            int done = tokens.takeNumber(0, 30);
            if (done == NONE) {
                return false;
            }
            draft.wareNames[ware] = name;
            draft.wholes[ware] = whole;
            draft.firstDone[ware] = Math.min(done, whole / 2);
            draft.wares = ware + 1;
            return true;
        }

        private boolean takeKind(Republic draft, int ware) {
            int kind = tokens.isWord(Word.PLAIN) ? PLAIN
                : tokens.isWord(Word.BRIDGE) ? BRIDGE
                : tokens.isWord(Word.LETTER) ? LETTER
                : tokens.isWord(Word.CLOCK) ? CLOCK : NONE;
            if (kind == NONE) {
                return tokens.wrong(CANNOT_STAND);
            }
            draft.kinds[ware] = kind;
            tokens.advance();
            return true;
        }

        private boolean readParty(Republic draft) {
            int party = draft.parties;
            if (party >= MAX_PARTIES) {
                return tokens.wrong(TOO_MANY);
            }
            tokens.advance();
            long name = tokens.key;
            if (!takeNewName(draft) || !tokens.takeWord(Word.SEATS)) {
                return false;
            }
            int seats = tokens.takeNumber(0, 40);
            if (seats == NONE) {
                return false;
            }
            draft.partyNames[party] = name;
            draft.firstSeats[party] = seats;
            draft.causes[party] = 0;
            draft.parties = party + 1;
            return true;
        }

        private boolean readCause(Republic draft) {
            tokens.advance();
            int party = takeNamed(partyHere(draft), NONE);
            if (party == NONE) {
                return false;
            }
            int ware = wareHere(draft);
            int already = ware != NONE && draft.isFor(party, ware) ? ware : NONE;
            if (takeNamed(ware, already) == NONE) {
                return false;
            }
            draft.causes[party] |= 1 << ware;
            return true;
        }

        private boolean readFine(Republic draft) {
            if (draft.fineTold) {
                return tokens.wrong(TOLD_ALREADY);
            }
            tokens.advance();
            int fine = tokens.takeNumber(1, 9);
            if (fine == NONE) {
                return false;
            }
            draft.fine = fine;
            draft.fineTold = true;
            return true;
        }

        private boolean readWorks(Republic draft) {
            if (draft.worksTold) {
                return tokens.wrong(TOLD_ALREADY);
            }
            draft.worksTold = true;
            tokens.advance();
            return laws.readLevel(draft.law, LawReader.CHOICE, 0);
        }

        private boolean readLine(Republic told, Term draft) {
            int deed = deedHere();
            if (deed == NONE) {
                return tokens.wrong(CANNOT_STAND);
            }
            if (draft.lines >= MAX_LINES) {
                return tokens.wrong(TOO_MANY);
            }
            tokens.advance();
            if (deed == DO_WEEK) {
                draft.put(deed, 0, 0, 0);
                return true;
            }
            boolean lends = deed == DO_LEND;
            int first = takeNamed(lends ? partyHere(told) : wareHere(told), NONE);
            int second = 0;
            if (first != NONE && (lends || deed == DO_JOIN)) {
                second = takeNamed(lends ? partyHere(told) : wareHere(told), first);
            }
            if (first == NONE || second == NONE) {
                return false;
            }
            int amount = deed == DO_JOIN ? 0 : tokens.takeNumber(1, MAX_LOT);
            draft.put(deed, first, second, amount);
            return amount != NONE;
        }

        private int deedHere() {
            return tokens.isWord(Word.WORK) ? DO_WORK
                : tokens.isWord(Word.STOP) ? DO_STOP
                : tokens.isWord(Word.JOIN) ? DO_JOIN
                : tokens.isWord(Word.LEND) ? DO_LEND
                : tokens.isWord(Word.WEEK) ? DO_WEEK : NONE;
        }

        private boolean takeNewName(Republic draft) {
            if (!tokens.isName()) {
                return tokens.wrong(CANNOT_STAND);
            }
            if (draft.wareNamed(tokens.key) != NONE || draft.partyNamed(tokens.key) != NONE) {
                return tokens.wrong(TOLD_ALREADY);
            }
            tokens.advance();
            return true;
        }

        private int wareHere(Republic told) {
            return tokens.isName() ? told.wareNamed(tokens.key) : NONE;
        }

        private int partyHere(Republic told) {
            return tokens.isName() ? told.partyNamed(tokens.key) : NONE;
        }

        /** The one that is named here, if it is another than the first one; or NONE with a fault. */
        private int takeNamed(int named, int first) {
            if (!tokens.isName()) {
                tokens.wrong(CANNOT_STAND);
                return NONE;
            }
            if (named == NONE) {
                tokens.wrong(NOT_TOLD);
                return NONE;
            }
            if (named == first) {
                tokens.wrong(TOLD_ALREADY);
                return NONE;
            }
            tokens.advance();
            return named;
        }
    }

    /** How it is in the republic. */
    private static final class State {
        final int[] done = new int[MAX_WARES];
        final int[] seats = new int[MAX_PARTIES];
        int week;
        int fines;
        int joins;

        void begin(Republic told) {
            for (int i = 0; i < MAX_WARES; i++) {
                done[i] = told.hasWare(i) ? told.firstDone[i] : 0;
            }
            for (int i = 0; i < MAX_PARTIES; i++) {
                seats[i] = told.hasParty(i) ? told.firstSeats[i] : 0;
            }
            week = 0;
            fines = 0;
            joins = 0;
        }

        void copyOf(State other) {
            for (int i = 0; i < MAX_WARES; i++) {
                done[i] = other.done[i];
            }
            for (int i = 0; i < MAX_PARTIES; i++) {
                seats[i] = other.seats[i];
            }
            week = other.week;
            fines = other.fines;
            joins = other.joins;
        }

        int workOn(Republic told, int ware, int much) {
            if (!told.hasWare(ware)) {
                return 0;
            }
            int half = told.halfOf(ware);
            int then = done[ware] + much;
            done[ware] = Math.min(then, half);
            int fined = Math.max(0, then - half) * told.fine;
            fines += fined;
            return fined;
        }

        void takeOff(int ware, int much) {
            if (ware >= 0 && ware < done.length) {
                done[ware] = Math.max(0, done[ware] - much);
            }
        }

        boolean isHalf(Republic told, int ware) {
            return done[ware] >= told.halfOf(ware);
        }

        boolean canJoin(Republic told, int ware, int other) {
            return told.couldPair(ware, other) && isHalf(told, ware) && isHalf(told, other);
        }

        void arrest(Republic told, int ware, int other) {
            done[ware] = 0;
            done[other] = 0;
            fines += 10 * told.fine;
            joins++;
        }

        boolean canLend(Republic told, int party, int other, int lent) {
            return told.hasParty(party) && told.hasParty(other) && party != other
                && seats[party] >= lent && seats[other] + lent <= MAX_SEATS;
        }

        void moveSeats(int party, int other, int lent) {
            seats[party] -= lent;
            seats[other] += lent;
        }

        int passWeek(Republic told) {
            int fined = 0;
            for (int ware = 0; ware < told.wares; ware++) {
                int votes = votesFor(told, ware);
                int much = told.weekWork(told.kinds[ware], done[ware], told.halfOf(ware), votes, week);
                fined += workOn(told, ware, much);
            }
            week++;
            return fined;
        }

        /** Does a line of a term; false if it can't be. */
        boolean follow(Republic told, Term term, int line) {
            int first = term.firsts[line];
            int second = term.seconds[line];
            int amount = term.amounts[line];
            switch (term.deeds[line]) {
                case DO_WORK:
                    workOn(told, first, amount);
                    return true;
                case DO_STOP:
                    takeOff(first, amount);
                    return true;
                case DO_JOIN:
                    if (!canJoin(told, first, second)) {
                        return false;
                    }
                    arrest(told, first, second);
                    return true;
                case DO_LEND:
                    if (!canLend(told, first, second, amount)) {
                        return false;
                    }
                    moveSeats(first, second, amount);
                    return true;
                default:
                    passWeek(told);
                    return true;
            }
        }

        int votesFor(Republic told, int ware) {
            int votes = 0;
            for (int party = 0; party < told.parties; party++) {
                if (told.isFor(party, ware)) {
                    votes += seats[party];
                }
            }
            return votes;
        }

        int allSeats() {
            int all = 0;
            for (int i = 0; i < seats.length; i++) {
                all += seats[i];
            }
            return all;
        }

        int allDone() {
            int all = 0;
            for (int i = 0; i < done.length; i++) {
                all += done[i];
            }
            return all;
        }

        int halfDone(Republic told) {
            int set = 0;
            for (int ware = 0; ware < told.wares; ware++) {
                if (isHalf(told, ware)) {
                    set |= 1 << ware;
                }
            }
            return set;
        }

        /** The work by which all wares of a set would be half done. */
        int lackOf(Republic told, int set) {
            int lack = 0;
            for (int ware = 0; ware < told.wares; ware++) {
                if ((set >> ware & 1) == 1) {
                    lack += told.halfOf(ware) - done[ware];
                }
            }
            return lack;
        }

        boolean wouldHalve(Republic told, int ware, int from, int to, int lent) {
            if (!canLend(told, from, to, lent)) {
                return false;
            }
            int votes = votesFor(told, ware);
            if (told.isFor(from, ware)) {
                votes -= lent;
            }
            if (told.isFor(to, ware)) {
                votes += lent;
            }
            return standing(votes, allSeats()) == HALVED;
        }
    }

    /** The seats of every set of parties, for what is counted over sets. */
    private static final class Assembly {
        final int[] sums = new int[1 << MAX_PARTIES];
        int sets;
        int all;

        void meet(int parties, int[] seats) {
            sums[0] = 0;
            sets = 1;
            for (int party = 0; party < parties && party < MAX_PARTIES; party++) {
                for (int set = 0; set < sets; set++) {
                    sums[set + sets] = sums[set] + seats[party];
                }
                sets *= 2;
            }
            all = sums[sets - 1];
        }

        int setsOf(int seats) {
            int many = 0;
            for (int set = 0; set < sets; set++) {
                if (sums[set] == seats) {
                    many++;
                }
            }
            return many;
        }

        int turnsBy(int party) {
            int many = 0;
            int bit = 1 << party;
            for (int set = 0; set < sets; set++) {
                if ((set & bit) == 0 && !isMajority(set) && isMajority(set | bit)) {
                    many++;
                }
            }
            return many;
        }

        int inEveryMajority() {
            int common = isMajority(sets - 1) ? sets - 1 : 0;
            for (int set = 0; set < sets; set++) {
                if (isMajority(set)) {
                    common &= set;
                }
            }
            return common;
        }

        int leastMajority() {
            int best = NONE;
            for (int set = 0; set < sets; set++) {
                if (isMajority(set) && (best == NONE || Integer.bitCount(set) < Integer.bitCount(best))) {
                    best = set;
                }
            }
            return best;
        }

        private boolean isMajority(int set) {
            return set >= 0 && set < sums.length && 2 * sums[set] > all;
        }
    }

    /** What was said of the ware that nobody saw whole. */
    private static final class Said {
        private static final int NEVER = MAX_SAID_WEEKS + 1;

        int many;
        final int[] weeks = new int[MAX_SAID];
        final boolean[] halves = new boolean[MAX_SAID];

        // By each half that it can have: behind how many weeks so much would be done.
        final int[] reached = new int[GREATEST_HALF + 1];

        boolean put(int week, boolean half) {
            if (many < 0 || many >= MAX_SAID) {
                return false;
            }
            weeks[many] = week;
            halves[many] = half;
            many++;
            return true;
        }

        void copyOf(Said other) {
            many = 0;
            for (int i = 0; i < other.many; i++) {
                put(other.weeks[i], other.halves[i]);
            }
        }

        void lookAhead(Republic told, int date) {
            for (int half = 1; half <= GREATEST_HALF; half++) {
                reached[half] = weeksTo(told, half, date);
            }
        }

        private static int weeksTo(Republic told, int half, int date) {
            int so = 0;
            for (int week = 0; week <= MAX_SAID_WEEKS; week++) {
                if (so >= half) {
                    return week;
                }
                so += told.weekWork(PLAIN, so, half, 0, date + week);
            }
            return NEVER;
        }

        boolean allows(int half) {
            if (half < 1 || half > GREATEST_HALF) {
                return false;
            }
            for (int i = 0; i < many; i++) {
                if ((reached[half] <= weeks[i]) != halves[i]) {
                    return false;
                }
            }
            return true;
        }

        int bestQuestion() {
            int all = allowedBy(NEVER);
            int best = NONE;
            int least = all;
            for (int week = 0; week <= MAX_SAID_WEEKS; week++) {
                int half = allowedBy(week);
                int worst = Math.max(half, all - half);
                if (worst < least) {
                    best = week;
                    least = worst;
                }
            }
            return best;
        }

        /** The wholes that all said allows and that are half done by a week. */
        private int allowedBy(int week) {
            int count = 0;
            for (int whole = LEAST_WHOLE; whole <= GREATEST_WHOLE; whole++) {
                if (reached[whole / 2] <= week && allows(whole / 2)) {
                    count++;
                }
            }
            return count;
        }
    }

    /** How it was when the mark was laid. */
    private static final class Mark {
        boolean laid;
        final State state = new State();
        final Term term = new Term();
        final Said said = new Said();

        void lay(State now, Term told, Said heard) {
            state.copyOf(now);
            term.copyOf(told);
            said.copyOf(heard);
            laid = true;
        }
    }
}
