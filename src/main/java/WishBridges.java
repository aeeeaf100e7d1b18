import java.util.Arrays;

/** Bridges that lead where whoever crossed last wished to go; the promises stand in shared/DOC.md. */
public final class WishBridges {
    public static final int NONE = -1;

    // Inside the object -1 stands for no BANK and no BRIDGE; answers tell these as -2.
    private static final int NOT = -2;
    private static final int ABOARD = -3;
    private static final int NO_GAIN = -1000;

    private static final int MOST_BANKS = 6;
    private static final int MOST_PATHS = 10;
    private static final int MOST_BRIDGES = 4;
    private static final int MOST_MEN = 7;
    private static final int MOST_BYTES = 2000;
    private static final int FED_BYTES = 20;
    private static final int MOST_HOURS = 200;
    private static final int FAR_HOURS = 300;
    private static final int WAITING_HOURS = 100;
    private static final int REACH_HOURS = 99;
    private static final int MOST_SEEDS = 20;
    private static final int MOST_PRICE = 3;
    // More than any hours, gains and prices can come to.
    private static final int FAR = 1 << 30;

    private final byte[] tape = new byte[MOST_BYTES];
    private int tapeLength;
    private int faultPlace = NONE;
    private Told told = new Told();
    private Told spare = new Told();
    private final Reader reader = new Reader();
    private final Going real = new Going(told);
    private final Going dream = new Going(told);
    private final Shelf shelf = new Shelf();
    private final Ways ways = new Ways();
    private final Rows rows = new Rows(real);
    private final Game game = new Game(real, rows);
    private final Market market = new Market(real);
    private final Seen seen = new Seen();

    public WishBridges() {
    }

    // ---- the tape ----

    public int feed(int a, int b, int c, int d, int e) {
        if (tapeLength > MOST_BYTES - FED_BYTES) {
            return NONE;
        }
        putBytes(a);
        putBytes(b);
        putBytes(c);
        putBytes(d);
        putBytes(e);
        return tapeLength;
    }

    private void putBytes(int four) {
        for (int shift = 24; shift >= 0 && tapeLength < MOST_BYTES; shift -= 8) {
            tape[tapeLength] = (byte) (four >>> shift);
            tapeLength++;
        }
    }

    public int back(int n) {
        if (n < 0 || n > tapeLength) {
            return NONE;
        }
        tapeLength -= n;
        return tapeLength;
    }

    public int read() {
        int fault = reader.readInto(spare, tape, tapeLength);
        tapeLength = 0;
        faultPlace = fault == 0 ? NONE : reader.place;
        if (fault == 0) {
            Told old = told;
            told = spare;
            spare = old;
            real.begin(told);
            shelf.clear();
            seen.clear();
        }
        return fault;
    }

    public int place() {
        return faultPlace;
    }

    // ---- how it stands ----

    private boolean isBank(int bank) {
        return bank >= 0 && bank < told.banks;
    }

    private boolean isBridge(int bridge) {
        return bridge >= 0 && bridge < told.bridges;
    }

    private boolean isMan(int man) {
        return man >= 0 && man < told.men;
    }

    private static int orNot(int number) {
        return number < 0 ? NOT : number;
    }

    public int bank(int bank) {
        return isBank(bank) ? real.menAt(bank) : NONE;
    }

    public int bridge(int bridge, int what) {
        if (!isBridge(bridge)) {
            return NONE;
        }
        switch (what) {
            case 0: return told.foot[bridge];
            case 1: return orNot(real.last[bridge]);
            case 2: return real.menOn(bridge);
            case 3: return real.crossed[bridge];
            default: return NONE;
        }
    }

    public int man(int man, int what) {
        if (!isMan(man)) {
            return NONE;
        }
        switch (what) {
            case 0: return orNot(real.at[man]);
            case 1: return told.home[man];
            case 2: return real.purse[man];
            case 3: return real.times[man];
            case 4: return real.waited[man];
            case 5: return orNot(real.on[man]);
            default: return NONE;
        }
    }

    public int wish(int man, int bridge) {
        if (!isMan(man) || !isBridge(bridge)) {
            return NONE;
        }
        return real.at[man] < 0 ? NOT : orNot(real.wishNow(man, bridge));
    }

    public int toll(int man, int bridge) {
        if (!isMan(man) || !isBridge(bridge)) {
            return NONE;
        }
        return real.at[man] < 0 ? NOT : real.tollNow(man, bridge);
    }

    // ---- things done ----

    public int cross(int man, int bridge) {
        if (!isMan(man) || !isBridge(bridge)) {
            return NONE;
        }
        if (!real.couldCross(man, bridge)) {
            return NOT;
        }
        shelf.keep(real);
        int to = real.crossOver(man, bridge);
        real.hourPasses();
        return to < 0 ? ABOARD : to;
    }

    public int pair(int man, int other, int bridge) {
        if (!isMan(man) || !isMan(other) || man == other || !isBridge(bridge)) {
            return NONE;
        }
        if (!real.couldCross(man, bridge)) {
            return NOT;
        }
        dream.copyFrom(real);
        dream.crossOver(man, bridge);
        if (!dream.couldCross(other, bridge)) {
            return NOT;
        }
        shelf.keep(real);
        real.crossOver(man, bridge);
        int to = real.crossOver(other, bridge);
        real.hourPasses();
        return to < 0 ? ABOARD : to;
    }

    public boolean hire(int bridge, int bank) {
        if (!isBridge(bridge) || !isBank(bank)) {
            return false;
        }
        shelf.keep(real);
        real.last[bridge] = bank;
        real.costs += told.hireCoins;
        real.hired++;
        real.hourPasses();
        return true;
    }

    public int walk(int man, int bank) {
        if (!isMan(man) || !isBank(bank)) {
            return NONE;
        }
        int span = real.at[man] < 0 ? 0 : told.pathHours(real.at[man], bank);
        if (span == 0) {
            return NOT;
        }
        shelf.keep(real);
        real.at[man] = bank;
        real.waited[man] = 0;
        for (int n = 0; n < span; n++) {
            real.hourPasses();
        }
        return span;
    }

    public int hours(int n) {
        if (n < 0 || n > MOST_HOURS) {
            return NONE;
        }
        if (n > 0) {
            shelf.keep(real);
        }
        for (int i = 0; i < n; i++) {
            real.hourPasses();
        }
        return real.hour;
    }

    public int rule(int n) {
        if (n < 0 || n > MOST_HOURS) {
            return NONE;
        }
        if (n > 0) {
            shelf.keep(real);
        }
        for (int i = 0; i < n; i++) {
            real.ruleHour(NONE);
        }
        return real.hour;
    }

    public boolean undo() {
        return shelf.takeBack(real);
    }

    // ---- what would be by the RULE ----

    public int homes() {
        return real.homeBits();
    }

    private static boolean isFar(int n) {
        return n >= 0 && n <= FAR_HOURS;
    }

    private void dreamHours(int n) {
        dream.copyFrom(real);
        for (int i = 0; i < n; i++) {
            dream.ruleHour(NONE);
        }
    }

    public int where(int man, int n) {
        if (!isMan(man) || !isFar(n)) {
            return NONE;
        }
        dreamHours(n);
        return orNot(dream.at[man]);
    }

    public int last(int bridge, int n) {
        if (!isBridge(bridge) || !isFar(n)) {
            return NONE;
        }
        dreamHours(n);
        return orNot(dream.last[bridge]);
    }

    public int coins(int n) {
        if (!isFar(n)) {
            return NONE;
        }
        dreamHours(n);
        return dream.allCoins();
    }

    public int homeBy(int man) {
        return isMan(man) ? hoursTillHome(1 << man) : NONE;
    }

    public int allHome() {
        return hoursTillHome((1 << told.men) - 1);
    }

    private int hoursTillHome(int set) {
        dream.copyFrom(real);
        for (int n = 0; n < FAR_HOURS; n++) {
            if ((dream.homeBits() & set) == set) {
                return n;
            }
            dream.ruleHour(NONE);
        }
        return (dream.homeBits() & set) == set ? FAR_HOURS : NOT;
    }

    public int odds(int man, int n, int s) {
        if (!isMan(man) || !isFar(n) || s < 1 || s > MOST_SEEDS) {
            return NONE;
        }
        // Without DAWN and PILGRIMS no LOT is ever drawn: one SEED is as good as all.
        boolean alike = told.dawn < 0 && told.pilgrims == 0;
        int rounds = alike ? 1 : s;
        int found = 0;
        for (int k = 0; k < rounds; k++) {
            if (isHomeBySeed(man, n, told.seed + k)) {
                found++;
            }
        }
        return alike ? found * s : found;
    }

    private boolean isHomeBySeed(int man, int n, int seed) {
        dream.copyFrom(real);
        dream.seed = seed;
        // Whom the RULE has brought HOME it never moves again.
        for (int i = 0; i < n && !dream.isHome(man); i++) {
            dream.ruleHour(NONE);
        }
        return dream.isHome(man);
    }

    public int waiting(int man, int bridge) {
        if (!isMan(man) || !isBridge(bridge)) {
            return NONE;
        }
        if (real.at[man] != told.foot[bridge]) {
            return NOT;
        }
        dream.copyFrom(real);
        for (int n = 0; n <= WAITING_HOURS; n++) {
            if (dream.last[bridge] == told.home[man] && dream.couldCross(man, bridge)) {
                return n;
            }
            dream.ruleHour(man);
        }
        return NOT;
    }

    public int follow(int man, int bridge) {
        if (!isMan(man) || !isBridge(bridge)) {
            return NONE;
        }
        if (real.at[man] != told.foot[bridge]) {
            return NOT;
        }
        for (int other = 0; other < told.men; other++) {
            if (other != man && real.couldCross(other, bridge)
                    && real.wishNow(other, bridge) == told.home[man]) {
                return other;
            }
        }
        return NOT;
    }

    // ---- ways of one alone ----

    public int way(int man, int bank, int what) {
        if (!isMan(man) || !isBank(bank) || what < 0 || what > 1) {
            return NONE;
        }
        if (real.at[man] < 0) {
            return NOT;
        }
        ways.search(told, real.last, real.at[man]);
        return what == 0 ? ways.hoursTo(bank) : ways.crossingsTo(bank);
    }

    public int reach(int man, int n) {
        if (!isMan(man) || n < 0 || n > REACH_HOURS) {
            return NONE;
        }
        if (real.at[man] < 0) {
            return NOT;
        }
        ways.search(told, real.last, real.at[man]);
        return ways.within(told, n);
    }

    // ---- rows ----

    private boolean isSet(int set) {
        return set > 0 && set < 1 << told.men;
    }

    /** 0 if such a ROW can be thought of, else what is to be answered. */
    private int rowFault(int bridge, int set) {
        if (!isBridge(bridge) || !isSet(set)) {
            return NONE;
        }
        return (real.menAt(told.foot[bridge]) & set) == set ? 0 : NOT;
    }

    public int orders(int bridge, int set) {
        int bad = rowFault(bridge, set);
        if (bad != 0) {
            return bad;
        }
        rows.prepare(bridge, set, 1);
        return rows.countOrders();
    }

    public int orderAt(int bridge, int set, int i) {
        int bad = i < 0 ? NONE : rowFault(bridge, set);
        if (bad != 0) {
            return bad;
        }
        rows.prepare(bridge, set, 1);
        if (rows.fewestWishers(0) > 0) {
            return NOT;
        }
        if (i >= rows.size) {
            return NONE;
        }
        rows.findRow(0);
        return rows.row[i];
    }

    public int wishers(int bridge, int set) {
        int bad = rowFault(bridge, set);
        if (bad != 0) {
            return bad;
        }
        rows.prepare(bridge, set, 2);
        return rows.fewestWishers(rows.size);
    }

    public int wisherAt(int bridge, int set, int i) {
        int bad = i < 0 ? NONE : rowFault(bridge, set);
        if (bad != 0) {
            return bad;
        }
        rows.prepare(bridge, set, 2);
        if (i >= rows.size) {
            return NONE;
        }
        rows.findRow(rows.fewestWishers(rows.size));
        return rows.row[i] + ((rows.hiredAhead >> i & 1) == 1 ? 100 : 0);
    }

    public int rings(int bridge, int set, int what) {
        int bad = what < 0 || what > 2 ? NONE : rowFault(bridge, set);
        if (bad != 0) {
            return bad;
        }
        rows.prepare(bridge, set, 1);
        return rows.ringsOf(what);
    }

    // ---- early and late ----

    private boolean isGame(int bridge, int set) {
        return rowFault(bridge, set) == 0;
    }

    public int gain(int bridge, int set, int late, int man) {
        if (!isGame(bridge, set) || (late & ~set) != 0 || !isMan(man) || (set >> man & 1) == 0) {
            return NO_GAIN;
        }
        rows.prepare(bridge, set, 1);
        game.play(late);
        return game.gainOf(late, man);
    }

    public int worth(int bridge, int set, int late) {
        if (!isGame(bridge, set) || (late & ~set) != 0) {
            return NO_GAIN;
        }
        rows.prepare(bridge, set, 1);
        game.play(late);
        return game.worthOf(late);
    }

    public int rests(int bridge, int set, int i) {
        int bad = i < NONE ? NONE : rowFault(bridge, set);
        if (bad != 0) {
            return bad;
        }
        rows.prepare(bridge, set, 1);
        game.playAll();
        return i == NONE ? game.countRests() : game.restAt(i);
    }

    public int best(int bridge, int set, boolean cost) {
        if (!isGame(bridge, set)) {
            return NO_GAIN;
        }
        rows.prepare(bridge, set, 1);
        game.playAll();
        if (!cost) {
            return game.mostWorth();
        }
        return game.countRests() == 0 ? NO_GAIN : game.mostWorth() - game.leastRestingWorth();
    }

    public int prices(int bridge, int set, int m, int i) {
        if (m < 0 || m > MOST_PRICE || i != NONE && !isBank(i)) {
            return NONE;
        }
        int bad = rowFault(bridge, set);
        if (bad != 0) {
            return bad;
        }
        if (!market.search(bridge, set, m)) {
            return NOT;
        }
        return i == NONE ? market.leastSum : market.found[i];
    }

    // ---- what was seen and said ----

    public int see(int man, int bank) {
        return isMan(man) && isBank(bank) ? seen.add(man, bank) : NONE;
    }

    public boolean say(int man, int bank) {
        if (!isMan(man) || !isBank(bank)) {
            return false;
        }
        seen.said[man] = bank;
        return true;
    }

    public int forget() {
        int count = seen.count;
        seen.clear();
        return count;
    }

    private boolean isKnown(int k) {
        return k >= 0 && k <= seen.count;
    }

    public int fits(int k) {
        return isKnown(k) ? seen.waysToFit(k, told) : NONE;
    }

    public int sure(int k, int man) {
        return isKnown(k) && isMan(man) ? seen.sureWish(k, man, told) : NONE;
    }

    public int trust(int k) {
        return isKnown(k) ? seen.trueOnes(k, told) : NONE;
    }

    // ---- slots and counts ----

    public boolean hold(int slot) {
        return shelf.putInSlot(slot, real);
    }

    public boolean restore(int slot) {
        return shelf.goOnFrom(slot, real);
    }

    public int count(int what) {
        switch (what) {
            case 0: return told.banks;
            case 1: return told.paths;
            case 2: return told.bridges;
            case 3: return told.men;
            case 4: return real.hour;
            case 5: return real.costs;
            case 6: return real.hired;
            case 7: return tapeLength;
            case 8: return shelf.things;
            case 9: return seen.count;
            case 10: return Integer.bitCount(shelf.heldSlots);
            case 11: return seen.sayers();
            case 12: return orNot(told.dawn);
            default: return NONE;
        }
    }

    /** The tape cut into TOKENS; it ends with END or with BAD, what is no TOKEN. */
    private static final class Tokens {
        static final int END = 0;
        static final int BAD = 1;
        static final int NAME = 2;
        static final int INT = 3;
        static final int SEMICOLON = 4;
        static final int EQUALS = 5;
        static final int PLUS = 6;
        static final int MINUS = 7;
        static final int STAR = 8;
        static final int SLASH = 9;
        static final int LESS = 10;
        static final int OPEN = 11;
        static final int CLOSE = 12;
        // From here on the words in quotes, numbered as WORDS has them.
        static final int BANK = 13;
        static final int PATH = 14;
        static final int BRIDGE = 15;
        static final int MAN = 16;
        static final int WISHES = 17;
        static final int TOLL = 18;
        static final int GOES = 19;
        static final int GAIN = 20;
        static final int FANCY = 21;
        static final int DAWN = 22;
        static final int PILGRIMS = 23;
        static final int HIRE = 24;
        static final int SEED = 25;
        static final int IF = 26;
        static final int THEN = 27;
        static final int ELSE = 28;
        static final int HOUR = 29;
        static final int WORD_COUNT = 24;
        static final String WORDS =
                "bank path bridge man wishes toll goes gain fancy dawn pilgrims hire seed if then else hour last times purse home who here waited ";

        static final int MOST = 400;
        static final int LONGEST_NAME = 8;
        static final int LONGEST_INT = 4;

        private final long[] words = new long[WORD_COUNT];
        // The last one of these is END, BAD or one TOKEN too many: nobody reads behind it.
        final int[] kinds = new int[MOST + 1];
        final long[] values = new long[MOST + 1];
        final int[] places = new int[MOST + 1];
        private int count;
        private int end;

        Tokens() {
            int word = 0;
            long key = 0;
            for (int i = 0; i < WORDS.length() && word < WORD_COUNT; i++) {
                char c = WORDS.charAt(i);
                if (c == ' ') {
                    words[word] = key;
                    word++;
                    key = 0;
                } else {
                    key = withLetter(key, c);
                }
            }
        }

        private static long withLetter(long key, int letter) {
            return key * 32 + (letter - 'a' + 1);
        }

        private static boolean isLetter(int c) {
            return c >= 'a' && c <= 'z';
        }

        private static boolean isDigit(int c) {
            return c >= '0' && c <= '9';
        }

        private static boolean isBlank(int c) {
            return c == 9 || c == 10 || c == 13 || c == 32;
        }

        /** One TOKEN more than a text may have is enough: the Reader refuses that one. */
        void cut(byte[] tape, int length) {
            count = 0;
            end = Math.min(length, tape.length);
            int at = 0;
            for (int n = 0; n <= MOST && (count == 0 || kinds[count - 1] > BAD); n++) {
                at = cutOne(tape, pastBlanks(tape, at));
            }
        }

        private int pastBlanks(byte[] tape, int from) {
            int at = from;
            for (; at < end && isBlank(tape[at]); at++) {
            }
            return at;
        }

        private int cutOne(byte[] tape, int at) {
            if (at >= end) {
                put(END, 0, end);
                return end;
            }
            int c = tape[at];
            if (isLetter(c)) {
                return cutWord(tape, at);
            }
            if (isDigit(c)) {
                return cutInt(tape, at);
            }
            put(signOf(c), 0, at);
            return at + 1;
        }

        private int cutWord(byte[] tape, int from) {
            long key = 0;
            int at = from;
            for (; at < end && isLetter(tape[at]); at++) {
                key = withLetter(key, tape[at]);
            }
            put(at - from > LONGEST_NAME ? BAD : kindOfWord(key), key, from);
            return at;
        }

        private int cutInt(byte[] tape, int from) {
            int value = 0;
            int at = from;
            for (; at < end && isDigit(tape[at]); at++) {
                value = value * 10 + (tape[at] - '0');
            }
            put(at - from > LONGEST_INT ? BAD : INT, value, from);
            return at;
        }

        private int kindOfWord(long key) {
            for (int word = 0; word < WORD_COUNT; word++) {
                if (words[word] == key) {
                    return BANK + word;
                }
            }
            return NAME;
        }

        private static int signOf(int c) {
            switch (c) {
                case ';': return SEMICOLON;
                case '=': return EQUALS;
                case '+': return PLUS;
                case '-': return MINUS;
                case '*': return STAR;
                case '/': return SLASH;
                case '<': return LESS;
                case '(': return OPEN;
                case ')': return CLOSE;
                default: return BAD;
            }
        }

        private void put(int kind, long value, int place) {
            if (count <= MOST) {
                kinds[count] = kind;
                values[count] = value;
                places[count] = place;
                count++;
            }
        }
    }

    /** Reads a text into a Told, or finds its first FAULT. */
    private static final class Reader {
        static final int SYNTAX = 1;
        static final int ROOM = 2;
        static final int TWICE = 3;
        static final int UNKNOWN = 4;
        static final int WRONG = 5;
        static final int MOST_IFS = 4;
        static final int MOST_OPEN = 6;

        int place;
        private final Tokens tokens = new Tokens();
        private Told told;
        private Laws laws;
        private int next;
        private int fault;
        // The first of FAULTS 3 to 5, which counts only where SYNTAX and ROOM are nowhere.
        private int unfit;
        private int unfitPlace;
        private final long[] names = new long[MOST_BANKS + MOST_BRIDGES + MOST_MEN];
        private final int[] sorts = new int[MOST_BANKS + MOST_BRIDGES + MOST_MEN];
        private final int[] numbers = new int[MOST_BANKS + MOST_BRIDGES + MOST_MEN];
        private int nameCount;
        // An E leaves two signs waiting at most ahead of each ( and behind the last one.
        private final int[] signs = new int[3 * MOST_OPEN + 2];
        private int signCount;

        int readInto(Told target, byte[] tape, int length) {
            begin(target, tape, length);
            for (int n = 0; n <= Tokens.MOST && fault == 0 && kind() != Tokens.END; n++) {
                switch (kind()) {
                    case Tokens.BANK: readBank(); break;
                    case Tokens.PATH: readPath(); break;
                    case Tokens.BRIDGE: readBridge(); break;
                    case Tokens.MAN: readMan(); break;
                    case Tokens.WISHES: readNamedLaw(Tokens.WISHES, Tokens.MAN, told.wishes); break;
                    case Tokens.TOLL: readNamedLaw(Tokens.TOLL, Tokens.BRIDGE, told.tolls); break;
                    case Tokens.GOES: told.goes = takePlainLaw(Tokens.GOES); break;
                    case Tokens.GAIN: told.gain = takePlainLaw(Tokens.GAIN); break;
                    case Tokens.FANCY: told.fancy = takePlainLaw(Tokens.FANCY); break;
                    case Tokens.DAWN: told.dawn = takeSetting(Tokens.DAWN, 23); break;
                    case Tokens.PILGRIMS: told.pilgrims = takeSetting(Tokens.PILGRIMS, 100); break;
                    case Tokens.HIRE: told.hireCoins = takeSetting(Tokens.HIRE, 99); break;
                    case Tokens.SEED: told.seed = takeSetting(Tokens.SEED, 9999); break;
                    default: fail(SYNTAX);
                }
            }
            if (fault == 0) {
                fault = unfit;
                place = unfitPlace;
            }
            return fault;
        }

        private void begin(Told target, byte[] tape, int length) {
            tokens.cut(tape, length);
            told = target;
            told.clear();
            laws = told.laws;
            next = 0;
            fault = 0;
            unfit = 0;
            nameCount = 0;
        }

        private int kind() {
            return tokens.kinds[next];
        }

        private void fail(int number) {
            if (fault == 0) {
                fault = number;
                place = tokens.places[next];
            }
        }

        private void note(int number, int token) {
            if (unfit == 0) {
                unfit = number;
                unfitPlace = tokens.places[token];
            }
        }

        private void take(int kind) {
            if (fault != 0) {
                return;
            }
            boolean fits = kind() == kind;
            if (fits && next < Tokens.MOST) {
                next++;
            } else {
                fail(fits ? ROOM : SYNTAX);
            }
        }

        private void takeFirst(int kind, int count, int most) {
            if (count >= most) {
                fail(ROOM);
            }
            take(kind);
        }

        private void takeNewName(int sort, int number) {
            long name = tokens.values[next];
            int token = next;
            take(Tokens.NAME);
            if (fault != 0) {
                return;
            }
            for (int i = 0; i < nameCount; i++) {
                if (names[i] == name) {
                    note(TWICE, token);
                }
            }
            if (nameCount < names.length) {
                names[nameCount] = name;
                sorts[nameCount] = sort;
                numbers[nameCount] = number;
                nameCount++;
            }
        }

        /** The number of the one that a NAME names, -1 if there is none of that sort. */
        private int takeName(int sort) {
            long name = tokens.values[next];
            int token = next;
            take(Tokens.NAME);
            if (fault != 0) {
                return -1;
            }
            for (int i = 0; i < nameCount; i++) {
                if (names[i] == name && sorts[i] == sort) {
                    return numbers[i];
                }
            }
            note(UNKNOWN, token);
            return -1;
        }

        private int takeInt(int low, int high) {
            int value = (int) tokens.values[next];
            int token = next;
            take(Tokens.INT);
            if (fault != 0) {
                return low;
            }
            if (value < low || value > high) {
                note(WRONG, token);
            }
            return value;
        }

        private int takeSetting(int word, int high) {
            take(word);
            int value = takeInt(0, high);
            take(Tokens.SEMICOLON);
            return value;
        }

        private int takePlainLaw(int word) {
            take(word);
            return takeLaw();
        }

        private void readBank() {
            takeFirst(Tokens.BANK, told.banks, MOST_BANKS);
            takeNewName(Tokens.BANK, told.banks);
            take(Tokens.SEMICOLON);
            if (fault == 0) {
                told.banks++;
            }
        }

        private void readPath() {
            takeFirst(Tokens.PATH, told.paths, MOST_PATHS);
            int from = takeName(Tokens.BANK);
            int second = next;
            int to = takeName(Tokens.BANK);
            if (fault == 0 && from >= 0 && from == to) {
                note(TWICE, second);
            }
            int hours = takeInt(1, 9);
            take(Tokens.SEMICOLON);
            if (fault == 0) {
                told.addPath(from, to, hours);
            }
        }

        private void readBridge() {
            takeFirst(Tokens.BRIDGE, told.bridges, MOST_BRIDGES);
            takeNewName(Tokens.BRIDGE, told.bridges);
            int foot = takeName(Tokens.BANK);
            int last = kind() == Tokens.NAME ? takeName(Tokens.BANK) : -1;
            take(Tokens.SEMICOLON);
            if (fault == 0) {
                told.addBridge(foot, last);
            }
        }

        private void readMan() {
            takeFirst(Tokens.MAN, told.men, MOST_MEN);
            takeNewName(Tokens.MAN, told.men);
            int start = takeName(Tokens.BANK);
            int home = takeName(Tokens.BANK);
            int purse = takeInt(0, 999);
            take(Tokens.SEMICOLON);
            if (fault == 0) {
                told.addMan(start, home, purse);
            }
        }

        private void readNamedLaw(int word, int sort, int[] starts) {
            take(word);
            int number = takeName(sort);
            int start = takeLaw();
            if (number >= 0 && number < starts.length) {
                starts[number] = start;
            }
        }

        /** A LAW and the ; behind it: where it starts. */
        private int takeLaw() {
            int start = laws.length;
            take(Tokens.EQUALS);
            for (int n = 0; n <= MOST_IFS && fault == 0 && kind() == Tokens.IF; n++) {
                if (n == MOST_IFS) {
                    fail(ROOM);
                }
                take(Tokens.IF);
                takeSum();
                take(Tokens.LESS);
                takeSum();
                take(Tokens.THEN);
                int jump = laws.add(Laws.UNLESS_LESS, 0);
                takeSum();
                take(Tokens.ELSE);
                laws.add(Laws.DONE, 0);
                laws.aim(jump);
            }
            takeSum();
            laws.add(Laws.DONE, 0);
            take(Tokens.SEMICOLON);
            return start;
        }

        /** An E. Its signs wait until what they join has come. */
        private void takeSum() {
            int open = 0;
            signCount = 0;
            for (int n = 0; n <= Tokens.MOST && fault == 0; n++) {
                if (kind() == Tokens.OPEN) {
                    if (open == MOST_OPEN) {
                        fail(ROOM);
                    }
                    takeSign();
                    open++;
                    continue;
                }
                takeUnit();
                open = takeCloses(open);
                if (kind() < Tokens.PLUS || kind() > Tokens.SLASH) {
                    break;
                }
                settleSigns(weightOf(kind()));
                takeSign();
            }
            if (open > 0) {
                take(Tokens.CLOSE);
            }
            settleSigns(1);
        }

        private void takeUnit() {
            int kind = kind();
            if (kind == Tokens.INT) {
                laws.add(Laws.PUSH, (int) tokens.values[next]);
                take(kind);
            } else if (kind >= Tokens.HOUR) {
                laws.add(Laws.LOOK, kind - Tokens.HOUR);
                take(kind);
            } else {
                fail(SYNTAX);
            }
        }

        private void takeSign() {
            if (signCount < signs.length) {
                signs[signCount] = kind();
                signCount++;
            }
            take(kind());
        }

        /** As many ) as stand here and close something: how many ( are open then. */
        private int takeCloses(int open) {
            int left = open;
            for (; left > 0 && fault == 0 && kind() == Tokens.CLOSE; left--) {
                take(Tokens.CLOSE);
                settleSigns(1);
                signCount = Math.max(0, signCount - 1);
            }
            return left;
        }

        /** * and / bind more than + and -; a ( holds back all that stands ahead of it. */
        private static int weightOf(int sign) {
            return sign == Tokens.OPEN ? 0 : sign < Tokens.STAR ? 1 : 2;
        }

        private void settleSigns(int weight) {
            for (; signCount > 0 && weightOf(signs[signCount - 1]) >= weight; signCount--) {
                laws.add(Laws.ADD + signs[signCount - 1] - Tokens.PLUS, 0);
            }
        }
    }

    /** LAWS as steps for a stack; a LAW is named by the number of its first step. */
    private static final class Laws {
        static final int PUSH = 0;
        static final int LOOK = 1;
        // In the order of the signs in Tokens.
        static final int ADD = 2;
        static final int SUBTRACT = 3;
        static final int MULTIPLY = 4;
        static final int DIVIDE = 5;
        static final int UNLESS_LESS = 6;
        static final int DONE = 7;

        // Numbers of what a LAW may look at, as Tokens has the words.
        static final int HOUR = 0;
        static final int LAST = 1;
        static final int TIMES = 2;
        static final int PURSE = 3;
        static final int HOME = 4;
        static final int WHO = 5;
        static final int HERE = 6;
        static final int WAITED = 7;

        // No TOKEN makes more than one step, but for the one of a LAW that breaks off.
        private final int[] steps = new int[Tokens.MOST + 2];
        private final int[] stack = new int[32];
        final int[] vars = new int[8];
        int length;

        int add(int step, int number) {
            if (length >= steps.length) {
                return -1;
            }
            steps[length] = number * 8 + step;
            length++;
            return length - 1;
        }

        /** The jump leads to the step that comes next. */
        void aim(int jump) {
            if (jump >= 0 && jump < length) {
                steps[jump] = length * 8 + UNLESS_LESS;
            }
        }

        int valueOf(int start) {
            int top = 0;
            // Jumps lead onwards only.
            for (int at = Math.max(start, 0); at < length; at++) {
                int step = steps[at] & 7;
                int number = steps[at] >> 3;
                if (step == DONE) {
                    return top > 0 ? stack[top - 1] : 0;
                }
                if (step == PUSH || step == LOOK) {
                    if (top >= stack.length) {
                        return 0;
                    }
                    stack[top] = step == PUSH ? number : vars[number & 7];
                    top++;
                    continue;
                }
                if (top < 2) {
                    return 0;
                }
                top -= 2;
                int a = stack[top];
                int b = stack[top + 1];
                if (step == UNLESS_LESS) {
                    at = a < b ? at : Math.max(at, number - 1);
                    continue;
                }
                switch (step) {
                    case ADD: stack[top] = a + b; break;
                    case SUBTRACT: stack[top] = a - b; break;
                    case MULTIPLY: stack[top] = a * b; break;
                    default:
                        if (b == 0) {
                            return 0;
                        }
                        stack[top] = a / b;
                }
                top++;
            }
            return 0;
        }
    }

    /** What a text tells. */
    private static final class Told {
        int banks;
        int paths;
        int bridges;
        int men;
        // Hours of the shortest PATH by its two BANKS, 0 where there is none.
        private final int[] walks = new int[MOST_BANKS * MOST_BANKS];
        final int[] foot = new int[MOST_BRIDGES];
        final int[] firstLast = new int[MOST_BRIDGES];
        final int[] start = new int[MOST_MEN];
        final int[] home = new int[MOST_MEN];
        final int[] purse = new int[MOST_MEN];
        // Where LAWS start; -1 where none is told.
        final int[] wishes = new int[MOST_MEN];
        final int[] tolls = new int[MOST_BRIDGES];
        int goes;
        int gain;
        int fancy;
        int dawn;
        int pilgrims;
        int hireCoins;
        int seed;
        final Laws laws = new Laws();

        Told() {
            clear();
        }

        void clear() {
            banks = 0;
            paths = 0;
            bridges = 0;
            men = 0;
            Arrays.fill(walks, 0);
            Arrays.fill(wishes, -1);
            Arrays.fill(tolls, -1);
            goes = -1;
            gain = -1;
            fancy = -1;
            dawn = -1;
            pilgrims = 0;
            hireCoins = 5;
            seed = 0;
            laws.length = 0;
        }

        void addPath(int from, int to, int hours) {
            paths++;
            if (from < 0 || to < 0) {
                return;
            }
            int before = pathHours(from, to);
            if (before == 0 || hours < before) {
                walks[from * MOST_BANKS + to] = hours;
                walks[to * MOST_BANKS + from] = hours;
            }
        }

        void addBridge(int footBank, int last) {
            if (bridges < MOST_BRIDGES) {
                foot[bridges] = footBank;
                firstLast[bridges] = last;
                bridges++;
            }
        }

        void addMan(int startBank, int homeBank, int coins) {
            if (men < MOST_MEN) {
                start[men] = startBank;
                home[men] = homeBank;
                purse[men] = coins;
                men++;
            }
        }

        int pathHours(int from, int to) {
            return walks[from * MOST_BANKS + to];
        }
    }

    /** How it goes on: all that changes with the hours, and what changes it. */
    private static final class Going {
        static final int CELLS = 3 + 2 * MOST_BRIDGES + 5 * MOST_MEN;

        Told told;
        int seed;
        int hour;
        int costs;
        int hired;
        final int[] last = new int[MOST_BRIDGES];
        final int[] crossed = new int[MOST_BRIDGES];
        final int[] at = new int[MOST_MEN];
        final int[] on = new int[MOST_MEN];
        final int[] purse = new int[MOST_MEN];
        final int[] times = new int[MOST_MEN];
        final int[] waited = new int[MOST_MEN];

        Going(Told text) {
            told = text;
        }

        void begin(Told text) {
            told = text;
            seed = text.seed;
            hour = 0;
            costs = 0;
            hired = 0;
            System.arraycopy(text.firstLast, 0, last, 0, MOST_BRIDGES);
            Arrays.fill(crossed, 0);
            System.arraycopy(text.start, 0, at, 0, MOST_MEN);
            Arrays.fill(on, -1);
            System.arraycopy(text.purse, 0, purse, 0, MOST_MEN);
            Arrays.fill(times, 0);
            Arrays.fill(waited, 0);
        }

        void copyFrom(Going other) {
            told = other.told;
            seed = other.seed;
            hour = other.hour;
            costs = other.costs;
            hired = other.hired;
            System.arraycopy(other.last, 0, last, 0, MOST_BRIDGES);
            System.arraycopy(other.crossed, 0, crossed, 0, MOST_BRIDGES);
            System.arraycopy(other.at, 0, at, 0, MOST_MEN);
            System.arraycopy(other.on, 0, on, 0, MOST_MEN);
            System.arraycopy(other.purse, 0, purse, 0, MOST_MEN);
            System.arraycopy(other.times, 0, times, 0, MOST_MEN);
            System.arraycopy(other.waited, 0, waited, 0, MOST_MEN);
        }

        /** Writes what changes into CELLS cells; the caller has so many. */
        void putInto(int[] cells, int from) {
            cells[from] = hour;
            cells[from + 1] = costs;
            cells[from + 2] = hired;
            int to = from + 3;
            System.arraycopy(last, 0, cells, to, MOST_BRIDGES);
            System.arraycopy(crossed, 0, cells, to + MOST_BRIDGES, MOST_BRIDGES);
            to += 2 * MOST_BRIDGES;
            System.arraycopy(at, 0, cells, to, MOST_MEN);
            System.arraycopy(on, 0, cells, to + MOST_MEN, MOST_MEN);
            System.arraycopy(purse, 0, cells, to + 2 * MOST_MEN, MOST_MEN);
            System.arraycopy(times, 0, cells, to + 3 * MOST_MEN, MOST_MEN);
            System.arraycopy(waited, 0, cells, to + 4 * MOST_MEN, MOST_MEN);
        }

        void takeOutOf(int[] cells, int from) {
            hour = cells[from];
            costs = cells[from + 1];
            hired = cells[from + 2];
            int at0 = from + 3;
            System.arraycopy(cells, at0, last, 0, MOST_BRIDGES);
            System.arraycopy(cells, at0 + MOST_BRIDGES, crossed, 0, MOST_BRIDGES);
            at0 += 2 * MOST_BRIDGES;
            System.arraycopy(cells, at0, at, 0, MOST_MEN);
            System.arraycopy(cells, at0 + MOST_MEN, on, 0, MOST_MEN);
            System.arraycopy(cells, at0 + 2 * MOST_MEN, purse, 0, MOST_MEN);
            System.arraycopy(cells, at0 + 3 * MOST_MEN, times, 0, MOST_MEN);
            System.arraycopy(cells, at0 + 4 * MOST_MEN, waited, 0, MOST_MEN);
        }

        int menAt(int bank) {
            int bits = 0;
            for (int man = 0; man < told.men; man++) {
                if (at[man] == bank) {
                    bits |= 1 << man;
                }
            }
            return bits;
        }

        int menOn(int bridge) {
            int bits = 0;
            for (int man = 0; man < told.men; man++) {
                if (on[man] == bridge) {
                    bits |= 1 << man;
                }
            }
            return bits;
        }

        boolean isHome(int man) {
            return at[man] == told.home[man];
        }

        int homeBits() {
            int bits = 0;
            for (int man = 0; man < told.men; man++) {
                if (isHome(man)) {
                    bits |= 1 << man;
                }
            }
            return bits;
        }

        int allCoins() {
            int sum = 0;
            for (int man = 0; man < told.men; man++) {
                sum += purse[man];
            }
            return sum;
        }

        private static int held(int value, int low, int high) {
            return Math.max(low, Math.min(high, value));
        }

        private void look(int man, int lastBank, int atHour) {
            int[] vars = told.laws.vars;
            vars[Laws.HOUR] = Math.floorMod(atHour, 24);
            vars[Laws.LAST] = lastBank;
            vars[Laws.TIMES] = times[man];
            vars[Laws.PURSE] = purse[man];
            vars[Laws.HOME] = told.home[man];
            vars[Laws.WHO] = man;
            vars[Laws.HERE] = at[man];
            vars[Laws.WAITED] = waited[man];
        }

        /** The BANK that he wishes if LAST and the hour are these; -1: nothing. */
        int wishAs(int man, int lastBank, int atHour) {
            if (told.wishes[man] < 0) {
                return told.home[man];
            }
            look(man, lastBank, atHour);
            int value = told.laws.valueOf(told.wishes[man]);
            return value < 0 || told.banks == 0 ? -1 : value % told.banks;
        }

        int wishNow(int man, int bridge) {
            return wishAs(man, last[bridge], hour);
        }

        int tollNow(int man, int bridge) {
            if (told.tolls[bridge] < 0) {
                return 0;
            }
            look(man, last[bridge], hour);
            return held(told.laws.valueOf(told.tolls[bridge]), 0, 99);
        }

        private boolean wouldGo(int man, int bridge) {
            if (told.goes < 0) {
                return false;
            }
            look(man, last[bridge], hour);
            return told.laws.valueOf(told.goes) > 0;
        }

        /** GAIN of one who would come HOME or not, behind so many in a ROW: each of these takes an HOUR. */
        int gainAs(int man, boolean comesHome, int ahead) {
            int came = comesHome ? 1 : 0;
            if (told.gain < 0) {
                return 20 * came - ahead;
            }
            look(man, 0, hour + ahead);
            told.laws.vars[Laws.HOME] = came;
            told.laws.vars[Laws.WAITED] = ahead;
            return held(told.laws.valueOf(told.gain), -99, 99);
        }

        int fancyAs(int man, int bank, int atHour) {
            if (told.fancy < 0) {
                return 0;
            }
            look(man, bank, atHour);
            return held(told.laws.valueOf(told.fancy), -99, 99);
        }

        boolean couldCross(int man, int bridge) {
            return at[man] == told.foot[bridge] && tollNow(man, bridge) <= purse[man];
        }

        /** The BANK to which he comes, -1 if he is ON the BRIDGE then. */
        int crossOver(int man, int bridge) {
            int wished = wishNow(man, bridge);
            int to = last[bridge];
            purse[man] -= tollNow(man, bridge);
            at[man] = -1;
            on[man] = bridge;
            if (to >= 0) {
                landAll(bridge, to);
            }
            if (wished >= 0) {
                last[bridge] = wished;
            }
            times[man]++;
            waited[man] = 0;
            crossed[bridge]++;
            return to;
        }

        private void landAll(int bridge, int bank) {
            for (int man = 0; man < told.men; man++) {
                if (on[man] == bridge) {
                    on[man] = -1;
                    at[man] = bank;
                }
            }
        }

        private static int stirred(int h, int number) {
            int mixed = (h ^ number) * 1103515245 + 12345;
            return mixed ^ mixed >>> 15;
        }

        private int lot(int n, int which) {
            int h = stirred(stirred(seed, 47), which);
            return n > 0 ? (h >>> 1) % n : 0;
        }

        void hourPasses() {
            hour++;
            if (told.dawn >= 0 && Math.floorMod(hour, 24) == told.dawn) {
                for (int bridge = 0; bridge < told.bridges; bridge++) {
                    last[bridge] = lot(told.banks, 100 * hour + bridge);
                }
            }
            if (told.pilgrims == 0) {
                return;
            }
            for (int bridge = 0; bridge < told.bridges; bridge++) {
                if (lot(100, 100 * hour + 10 + bridge) < told.pilgrims) {
                    last[bridge] = lot(told.banks, 100 * hour + 20 + bridge);
                }
            }
        }

        /** An HOUR by the RULE in which one MAN, if he is told, does nothing. */
        void ruleHour(int idle) {
            int busy = 0;
            for (int man = 0; man < told.men; man++) {
                if (man == idle || on[man] >= 0 || isHome(man)) {
                    continue;
                }
                int bridge = bridgeByRule(man, busy);
                if (bridge < 0) {
                    waited[man]++;
                } else {
                    crossOver(man, bridge);
                    busy |= 1 << bridge;
                }
            }
            hourPasses();
        }

        private int bridgeByRule(int man, int busy) {
            for (int bridge = 0; bridge < told.bridges; bridge++) {
                if ((busy >> bridge & 1) == 0 && last[bridge] == told.home[man] && couldCross(man, bridge)) {
                    return bridge;
                }
            }
            for (int bridge = 0; bridge < told.bridges; bridge++) {
                if ((busy >> bridge & 1) == 0 && couldCross(man, bridge) && wouldGo(man, bridge)) {
                    return bridge;
                }
            }
            return -1;
        }
    }

    /** How it stood ahead of the last things done, and what SLOTS hold. */
    private static final class Shelf {
        static final int MOST_THINGS = 40;
        static final int SLOTS = 3;

        // The things done go round in the first cells, the SLOTS lie behind them.
        private final int[] cells = new int[(MOST_THINGS + SLOTS) * Going.CELLS];
        private int next;
        int things;
        int heldSlots;

        void clear() {
            things = 0;
            heldSlots = 0;
        }

        void keep(Going going) {
            going.putInto(cells, next * Going.CELLS);
            next = (next + 1) % MOST_THINGS;
            things = Math.min(things + 1, MOST_THINGS);
        }

        boolean takeBack(Going going) {
            if (things == 0) {
                return false;
            }
            things--;
            next = (next + MOST_THINGS - 1) % MOST_THINGS;
            going.takeOutOf(cells, next * Going.CELLS);
            return true;
        }

        boolean putInSlot(int slot, Going going) {
            if (slot < 0 || slot >= SLOTS) {
                return false;
            }
            going.putInto(cells, (MOST_THINGS + slot) * Going.CELLS);
            heldSlots |= 1 << slot;
            return true;
        }

        boolean goOnFrom(int slot, Going going) {
            if (slot < 0 || slot >= SLOTS || (heldSlots >> slot & 1) == 0) {
                return false;
            }
            going.takeOutOf(cells, (MOST_THINGS + slot) * Going.CELLS);
            things = 0;
            return true;
        }
    }

    /**
     * WAYS of one alone. What he wished on a BRIDGE need not be settled before he crosses it again, so a
     * spot is the BANK where he is and the set of BRIDGES that he has crossed.
     */
    private static final class Ways {
        static final int SETS = 1 << MOST_BRIDGES;
        static final int SPOTS = MOST_BANKS * SETS;
        // Hours weigh more than all crossings that any shortest way can have.
        static final int HOUR = 1024;

        private final int[] costs = new int[SPOTS];
        private final int[] settled = new int[SPOTS];

        void search(Told told, int[] last, int from) {
            Arrays.fill(costs, FAR);
            Arrays.fill(settled, 0);
            costs[from * SETS] = 0;
            for (int n = 0; n < SPOTS; n++) {
                int spot = nearest();
                if (spot < 0) {
                    return;
                }
                settled[spot] = 1;
                goByPaths(told, spot);
                goByBridges(told, last, spot);
            }
        }

        private int nearest() {
            int found = -1;
            for (int spot = 0; spot < SPOTS; spot++) {
                if (settled[spot] == 0 && costs[spot] < (found < 0 ? FAR : costs[found])) {
                    found = spot;
                }
            }
            return found;
        }

        private void goByPaths(Told told, int spot) {
            for (int to = 0; to < told.banks; to++) {
                int hours = told.pathHours(spot / SETS, to);
                if (hours > 0) {
                    come(to, spot % SETS, costs[spot] + hours * HOUR);
                }
            }
        }

        private void goByBridges(Told told, int[] last, int spot) {
            int cost = costs[spot] + HOUR + 1;
            int set = spot % SETS;
            for (int bridge = 0; bridge < told.bridges; bridge++) {
                if (told.foot[bridge] != spot / SETS || last[bridge] < 0) {
                    continue;
                }
                if ((set >> bridge & 1) == 0) {
                    come(last[bridge], set | 1 << bridge, cost);
                } else {
                    for (int to = 0; to < told.banks; to++) {
                        come(to, set, cost);
                    }
                }
            }
        }

        private void come(int bank, int set, int cost) {
            int spot = bank * SETS + set;
            costs[spot] = Math.min(costs[spot], cost);
        }

        private int costTo(int bank) {
            int least = FAR;
            for (int set = 0; set < SETS; set++) {
                least = Math.min(least, costs[bank * SETS + set]);
            }
            return least;
        }

        int hoursTo(int bank) {
            int cost = costTo(bank);
            return cost == FAR ? NOT : cost / HOUR;
        }

        int crossingsTo(int bank) {
            int cost = costTo(bank);
            return cost == FAR ? NOT : cost % HOUR;
        }

        int within(Told told, int n) {
            int bits = 0;
            for (int bank = 0; bank < told.banks; bank++) {
                int hours = hoursTo(bank);
                if (hours >= 0 && hours <= n) {
                    bits |= 1 << bank;
                }
            }
            return bits;
        }
    }

    /**
     * ROWS of a BRIDGE and a set. A spot is LAST and whether those who crossed are ON the BRIDGE still: as
     * LAST never goes away again, that is all of them or none.
     */
    private static final class Rows {
        static final int LASTS = MOST_BANKS + 1;
        static final int SPOTS = 2 * LASTS;
        static final int SETS = 1 << MOST_MEN;
        // Hours within a ROW: a crossing and a wisher for each MAN.
        static final int STEPS = 2 * MOST_MEN;
        static final int HIRES = MOST_MEN + 1;
        // Spots with nobody ON the BRIDGE, as bits.
        static final int LANDED = 0x1555;

        private final Going going;
        private final int[] wishes = new int[MOST_MEN * LASTS * STEPS];
        private final int[] orderCounts = new int[SETS * SPOTS];
        // By who crossed and how many were hired, each of whom took an HOUR: spots as bits.
        private final int[] reached = new int[SETS * HIRES];
        private final int[] hopeful = new int[SETS * HIRES];
        private final int[] leaving = new int[MOST_BANKS];
        private final int[] coming = new int[MOST_BANKS];
        private final int[] part = new int[MOST_BANKS];
        final int[] row = new int[MOST_MEN];
        int hiredAhead;
        int set;
        int size;
        int startLast;

        Rows(Going going) {
            this.going = going;
        }

        /** Looks up all that may be wished in a ROW which takes so many hours for each MAN. */
        void prepare(int bridge, int men, int hoursEach) {
            set = men;
            size = Integer.bitCount(men);
            startLast = going.last[bridge];
            int firstLast = startLast < 0 ? -1 : 0;
            int steps = Math.min(STEPS, size * hoursEach);
            for (int man = 0; man < MOST_MEN; man++) {
                for (int last = firstLast; last < going.told.banks && (set >> man & 1) == 1; last++) {
                    for (int step = 0; step < steps; step++) {
                        wishes[wishCell(man, last, step)] = going.wishAs(man, last, going.hour + step);
                    }
                }
            }
        }

        private static int wishCell(int man, int last, int step) {
            return (man * LASTS + last + 1) * STEPS + step;
        }

        /** WISH of a MAN in the ROW, so many hours from now; -1: nothing. */
        int wishAt(int man, int last, int step) {
            return wishes[wishCell(man, last, step)];
        }

        int homeOf(int man) {
            return going.told.home[man];
        }

        private static int spotOf(int last, int aboard) {
            return (last + 1) * 2 + aboard;
        }

        private boolean isSubset(int men) {
            return (men & ~set) == 0;
        }

        private boolean isLeft(int man, int crossed) {
            return (set & ~crossed & 1 << man) != 0;
        }

        private boolean allLiveAt(int men, int bank) {
            for (int man = 0; man < MOST_MEN; man++) {
                if ((men >> man & 1) == 1 && homeOf(man) != bank) {
                    return false;
                }
            }
            return true;
        }

        /** The spot behind a crossing; -1 if somebody comes where he is not at HOME. */
        private int spotAfter(int crossed, int spot, int man, int step) {
            int last = spot / 2 - 1;
            if (last >= 0 && (homeOf(man) != last || spot % 2 == 1 && !allLiveAt(crossed, last))) {
                return -1;
            }
            int wished = wishAt(man, last, step);
            return spotOf(wished < 0 ? last : wished, last < 0 ? 1 : 0);
        }

        /** By how many ROWS all come HOME; smaller sets first, as larger ones are come to from these. */
        int countOrders() {
            Arrays.fill(orderCounts, 0);
            orderCounts[spotOf(startLast, 0)] = 1;
            for (int crossed = 0; crossed < set; crossed++) {
                for (int spot = 0; spot < SPOTS && isSubset(crossed); spot++) {
                    if (orderCounts[crossed * SPOTS + spot] > 0) {
                        passOrdersOn(crossed, spot);
                    }
                }
            }
            int sum = 0;
            for (int spot = 0; spot < SPOTS; spot += 2) {
                sum += orderCounts[set * SPOTS + spot];
            }
            return sum;
        }

        private void passOrdersOn(int crossed, int spot) {
            for (int man = 0; man < MOST_MEN; man++) {
                int after = isLeft(man, crossed) ? spotAfter(crossed, spot, man, Integer.bitCount(crossed)) : -1;
                if (after >= 0) {
                    orderCounts[(crossed | 1 << man) * SPOTS + after] += orderCounts[crossed * SPOTS + spot];
                }
            }
        }

        /** The fewest wishers by whom all come HOME, or 1 more than most if that many are not enough. */
        int fewestWishers(int most) {
            Arrays.fill(reached, 0);
            reached[0] = 1 << spotOf(startLast, 0);
            for (int hires = 0; hires <= most; hires++) {
                for (int crossed = 0; crossed < set; crossed++) {
                    for (int spot = 0; spot < SPOTS && isSubset(crossed); spot++) {
                        if ((reached[crossed * HIRES + hires] >> spot & 1) == 1) {
                            spread(crossed, spot, hires, most);
                        }
                    }
                }
                if ((reached[set * HIRES + hires] & LANDED) != 0) {
                    return hires;
                }
            }
            return most + 1;
        }

        private void spread(int crossed, int spot, int hires, int most) {
            for (int man = 0; man < MOST_MEN; man++) {
                if (!isLeft(man, crossed)) {
                    continue;
                }
                int cell = (crossed | 1 << man) * HIRES + hires;
                int free = spotFree(crossed, spot, hires, man);
                if (free >= 0) {
                    reached[cell] |= 1 << free;
                }
                int paid = hires < most ? spotPaid(crossed, spot, hires, man) : -1;
                if (paid >= 0) {
                    reached[cell + 1] |= 1 << paid;
                }
            }
        }

        private int spotFree(int crossed, int spot, int hires, int man) {
            return spotAfter(crossed, spot, man, Integer.bitCount(crossed) + hires);
        }

        private int spotPaid(int crossed, int spot, int hires, int man) {
            int wished = spotOf(homeOf(man), spot % 2);
            return spotAfter(crossed, wished, man, Integer.bitCount(crossed) + hires + 1);
        }

        /** Of what was reached: from where so many in all bring everybody HOME. */
        private void findHopeful(int least) {
            for (int crossed = set; crossed >= 0; crossed--) {
                for (int hires = least; hires >= 0 && isSubset(crossed); hires--) {
                    int bits = 0;
                    for (int spot = 0; spot < SPOTS; spot++) {
                        boolean here = (reached[crossed * HIRES + hires] >> spot & 1) == 1;
                        bits |= here && isHopeful(crossed, spot, hires, least) ? 1 << spot : 0;
                    }
                    hopeful[crossed * HIRES + hires] = bits;
                }
            }
        }

        private boolean isHopeful(int crossed, int spot, int hires, int least) {
            if (crossed == set) {
                return hires == least && spot % 2 == 0;
            }
            for (int man = 0; man < MOST_MEN; man++) {
                if (!isLeft(man, crossed)) {
                    continue;
                }
                int cell = (crossed | 1 << man) * HIRES + hires;
                int free = spotFree(crossed, spot, hires, man);
                if (free >= 0 && (hopeful[cell] >> free & 1) == 1) {
                    return true;
                }
                int paid = hires < least ? spotPaid(crossed, spot, hires, man) : -1;
                if (paid >= 0 && (hopeful[cell + 1] >> paid & 1) == 1) {
                    return true;
                }
            }
            return false;
        }

        /**
         * The first ROW by numbers with the fewest wishers, behind fewestWishers() that found them; of one ROW,
         * the first place goes without if it can. Without wishers it is the first of ORDERS.
         */
        void findRow(int least) {
            findHopeful(least);
            int used = 0;
            for (int place = 0; place < size; place++) {
                for (int man = 0; man < MOST_MEN; man++) {
                    row[place] = man;
                    if (isLeft(man, used) && findHires(place + 1, least)) {
                        used |= 1 << man;
                        break;
                    }
                }
            }
        }

        /** Looks ahead of whom of the first ones of row to hire, so that the fewest are enough in the end. */
        private boolean findHires(int fixed, int least) {
            for (int choice = 0; choice < 1 << fixed; choice++) {
                if (Integer.bitCount(choice) <= least && leadsOn(fixed, choice)) {
                    return true;
                }
            }
            return false;
        }

        private boolean leadsOn(int fixed, int choice) {
            int crossed = 0;
            int hires = 0;
            int spot = spotOf(startLast, 0);
            hiredAhead = 0;
            for (int place = 0; place < fixed; place++) {
                int man = row[place];
                // The first place is the highest bit.
                if ((choice >> fixed - 1 - place & 1) == 1) {
                    spot = spotPaid(crossed, spot, hires, man);
                    hiredAhead |= 1 << place;
                    hires++;
                } else {
                    spot = spotFree(crossed, spot, hires, man);
                }
                if (spot < 0) {
                    return false;
                }
                crossed |= 1 << man;
            }
            return (hopeful[crossed * HIRES + hires] >> spot & 1) == 1;
        }

        /** RINGS: 0 PARTS, 1 EVEN ones, 2 NEEDS. */
        int ringsOf(int what) {
            drawArcs();
            int parts = 0;
            int even = 0;
            int needs = 0;
            for (int label = 0; label < MOST_BANKS; label++) {
                if (!hasArcs(label)) {
                    continue;
                }
                int more = moreOut(label);
                parts++;
                even += more == 0 ? 1 : 0;
                needs += Math.max(1, more);
            }
            if (what == 2) {
                return needs - (lastHelps() ? 1 : 0);
            }
            return what == 0 ? parts : even;
        }

        private void drawArcs() {
            for (int bank = 0; bank < MOST_BANKS; bank++) {
                leaving[bank] = 0;
                coming[bank] = 0;
                part[bank] = bank;
            }
            for (int man = 0; man < MOST_MEN; man++) {
                if ((set >> man & 1) == 1) {
                    int from = homeOf(man);
                    int wished = wishAt(man, startLast, 0);
                    int to = wished < 0 ? from : wished;
                    leaving[from]++;
                    coming[to]++;
                    join(part[from], part[to]);
                }
            }
        }

        private void join(int label, int other) {
            for (int bank = 0; bank < MOST_BANKS; bank++) {
                if (part[bank] == other) {
                    part[bank] = label;
                }
            }
        }

        private boolean hasArcs(int label) {
            for (int bank = 0; bank < MOST_BANKS; bank++) {
                if (part[bank] == label && leaving[bank] + coming[bank] > 0) {
                    return true;
                }
            }
            return false;
        }

        private int moreOut(int label) {
            int sum = 0;
            for (int bank = 0; bank < MOST_BANKS; bank++) {
                if (part[bank] == label) {
                    sum += Math.max(0, leaving[bank] - coming[bank]);
                }
            }
            return sum;
        }

        private boolean lastHelps() {
            if (startLast < 0 || leaving[startLast] + coming[startLast] == 0) {
                return false;
            }
            return moreOut(part[startLast]) == 0 || leaving[startLast] > coming[startLast];
        }
    }

    /** EARLY AND LATE, of the ROWS that are prepared. */
    private static final class Game {
        private final Going going;
        private final Rows rows;
        private final int[] gains = new int[Rows.SETS * MOST_MEN];
        private final int[] ahead = new int[MOST_MEN];
        private int aboard;
        private int came;

        Game(Going going, Rows rows) {
            this.going = going;
            this.rows = rows;
        }

        void playAll() {
            for (int late = 0; late <= rows.set; late++) {
                if (isChoice(late)) {
                    play(late);
                }
            }
        }

        private boolean isChoice(int late) {
            return (late & ~rows.set) == 0;
        }

        private boolean takesPart(int man) {
            return (rows.set >> man & 1) == 1;
        }

        void play(int late) {
            aboard = 0;
            came = 0;
            int early = rows.set & ~late;
            int last = crossAll(early, rows.startLast, 0);
            crossAll(late, last, Integer.bitCount(early));
            for (int man = 0; man < MOST_MEN; man++) {
                if (takesPart(man)) {
                    gains[late * MOST_MEN + man] = going.gainAs(man, (came >> man & 1) == 1, ahead[man]);
                }
            }
        }

        /** These cross by numbers: what LAST is then. */
        private int crossAll(int men, int firstLast, int firstStep) {
            int last = firstLast;
            int step = firstStep;
            for (int man = 0; man < MOST_MEN; man++) {
                if ((men >> man & 1) == 1) {
                    int wished = rows.wishAt(man, last, step);
                    aboard |= 1 << man;
                    if (last >= 0) {
                        landAllAt(last);
                    }
                    last = wished < 0 ? last : wished;
                    ahead[man] = step;
                    step++;
                }
            }
            return last;
        }

        private void landAllAt(int bank) {
            for (int man = 0; man < MOST_MEN; man++) {
                if ((aboard >> man & 1) == 1 && rows.homeOf(man) == bank) {
                    came |= 1 << man;
                }
            }
            aboard = 0;
        }

        int gainOf(int late, int man) {
            return gains[late * MOST_MEN + man];
        }

        int worthOf(int late) {
            int sum = 0;
            for (int man = 0; man < MOST_MEN; man++) {
                if (takesPart(man)) {
                    sum += gainOf(late, man);
                }
            }
            return sum;
        }

        private boolean isRest(int late) {
            for (int man = 0; man < MOST_MEN; man++) {
                if (takesPart(man) && gainOf(late ^ 1 << man, man) > gainOf(late, man)) {
                    return false;
                }
            }
            return true;
        }

        int countRests() {
            int found = 0;
            for (int late = 0; late <= rows.set; late++) {
                if (isChoice(late) && isRest(late)) {
                    found++;
                }
            }
            return found;
        }

        /** The i-th of RESTS, NONE if there are not so many. */
        int restAt(int i) {
            int found = 0;
            for (int late = 0; late <= rows.set; late++) {
                if (isChoice(late) && isRest(late)) {
                    if (found == i) {
                        return late;
                    }
                    found++;
                }
            }
            return NONE;
        }

        int mostWorth() {
            int most = worthOf(0);
            for (int late = 1; late <= rows.set; late++) {
                if (isChoice(late)) {
                    most = Math.max(most, worthOf(late));
                }
            }
            return most;
        }

        int leastRestingWorth() {
            int least = FAR;
            for (int late = 0; late <= rows.set; late++) {
                if (isChoice(late) && isRest(late)) {
                    least = Math.min(least, worthOf(late));
                }
            }
            return least;
        }
    }

    /** PRICES of the BANKS by which those of a set bring one another HOME. */
    private static final class Market {
        private final Going going;
        private final int[] fancies = new int[MOST_MEN * MOST_BANKS];
        // The BANK that each one in the ROW must leave; -1: any.
        private final int[] needs = new int[MOST_MEN];
        private final int[] row = new int[MOST_MEN];
        private final int[] tried = new int[MOST_BANKS];
        private int size;
        private int banks;
        final int[] found = new int[MOST_BANKS];
        int leastSum;

        Market(Going going) {
            this.going = going;
        }

        boolean search(int bridge, int set, int most) {
            lineUp(set);
            banks = going.told.banks;
            if (!findNeeds(going.last[bridge])) {
                return false;
            }
            askFancies();
            Arrays.fill(tried, 0);
            leastSum = FAR;
            int choices = 1;
            for (int bank = 0; bank < banks; bank++) {
                choices *= most + 1;
            }
            for (int n = 0; n < choices; n++) {
                tryPrices();
                nextPrices(most);
            }
            return leastSum != FAR;
        }

        private void lineUp(int set) {
            size = 0;
            for (int man = 0; man < MOST_MEN; man++) {
                if ((set >> man & 1) == 1) {
                    row[size] = man;
                    size++;
                }
            }
        }

        /** False if no PRICES can bring the first one HOME: without LAST he comes where the second one comes. */
        private boolean findNeeds(int last) {
            int[] home = going.told.home;
            if (last < 0 ? size < 2 || home[row[0]] != home[row[1]] : home[row[0]] != last) {
                return false;
            }
            for (int i = 0; i < size; i++) {
                needs[i] = i + 1 < size ? home[row[i + 1]] : -1;
            }
            return true;
        }

        private void askFancies() {
            for (int i = 0; i < size; i++) {
                for (int bank = 0; bank < banks; bank++) {
                    fancies[i * MOST_BANKS + bank] = going.fancyAs(row[i], bank, going.hour + i);
                }
            }
        }

        private void tryPrices() {
            int sum = 0;
            for (int bank = 0; bank < banks; bank++) {
                sum += tried[bank];
            }
            if (sum < leastSum && allLeaveWhatIsNeeded()) {
                leastSum = sum;
                System.arraycopy(tried, 0, found, 0, MOST_BANKS);
            }
        }

        private void nextPrices(int most) {
            for (int bank = banks - 1; bank >= 0; bank--) {
                if (tried[bank] < most) {
                    tried[bank]++;
                    return;
                }
                tried[bank] = 0;
            }
        }

        private boolean allLeaveWhatIsNeeded() {
            for (int i = 0; i < size; i++) {
                if (needs[i] >= 0 && favourite(i) != needs[i]) {
                    return false;
                }
            }
            return true;
        }

        private int favourite(int i) {
            int chosen = 0;
            for (int bank = 1; bank < banks; bank++) {
                if (liking(i, bank) > liking(i, chosen)) {
                    chosen = bank;
                }
            }
            return chosen;
        }

        private int liking(int i, int bank) {
            return fancies[i * MOST_BANKS + bank] - tried[bank];
        }
    }

    /** What was SEEN and SAID. */
    private static final class Seen {
        static final int MOST = 12;
        static final int UNKNOWN = -1;

        private final int[] men = new int[MOST];
        private final int[] banks = new int[MOST];
        private final int[] known = new int[MOST_MEN];
        final int[] said = new int[MOST_MEN];
        int count;

        Seen() {
            clear();
        }

        void clear() {
            count = 0;
            Arrays.fill(said, -1);
        }

        int add(int man, int bank) {
            if (count >= MOST) {
                return NONE;
            }
            men[count] = man;
            banks[count] = bank;
            count++;
            return count - 1;
        }

        int sayers() {
            int bits = 0;
            for (int man = 0; man < MOST_MEN; man++) {
                if (said[man] >= 0) {
                    bits |= 1 << man;
                }
            }
            return bits;
        }

        /** Finds what each must wish: whoever came where tells what the one ahead of him wished. */
        private boolean learn(int k) {
            Arrays.fill(known, UNKNOWN);
            for (int i = 0; i + 1 < k; i++) {
                int man = men[i];
                if (known[man] != UNKNOWN && known[man] != banks[i + 1]) {
                    return false;
                }
                known[man] = banks[i + 1];
            }
            return true;
        }

        int waysToFit(int k, Told told) {
            if (!learn(k)) {
                return 0;
            }
            int product = k == 0 ? told.banks : 1;
            for (int man = 0; man < told.men; man++) {
                if (known[man] == UNKNOWN) {
                    product *= told.banks;
                }
            }
            return product;
        }

        int sureWish(int k, int man, Told told) {
            if (!learn(k)) {
                return NOT;
            }
            if (known[man] == UNKNOWN) {
                return told.banks == 1 ? 0 : NOT;
            }
            return known[man];
        }

        int trueOnes(int k, Told told) {
            if (!learn(k)) {
                return 0;
            }
            int bits = 0;
            for (int man = 0; man < told.men; man++) {
                if (said[man] >= 0 && (known[man] == UNKNOWN || known[man] == said[man])) {
                    bits |= 1 << man;
                }
            }
            return bits;
        }
    }
}
