import java.util.Arrays;
import java.util.NoSuchElementException;

/** One smoke between two: neighbours who share a chimney, and what the valley reads of it. */
public final class OneSmoke {
    public static final int NONE = -1;

    private static final int OTHERS = -2;

    private static final int FUELS = 0;
    private static final int FLUES = 1;
    private static final int HOUSES = 2;
    private static final int SIGNS = 3;
    private static final int WATCHERS = 4;

    private static final int MOST_FUELS = 5;
    private static final int MOST_FLUES = 3;
    private static final int MOST_HOUSES = 4;
    private static final int MOST_SIGNS = 6;
    private static final int MOST_WATCHERS = 4;
    private static final int MOST_STOCK = 99;
    private static final int MOST_SMOKE = 999;
    private static final int MOST_SOOT = 9999;
    private static final int MOST_UNDONE = 16;
    private static final int MOST_MARKS = 4;
    private static final int MOST_HOURS = 99;
    private static final int MOST_SEED = 9999;

    private static final int BY_DARK = 0;
    private static final int BY_SWEET = 1;
    private static final int BY_BOTH = 2;
    private static final int SIGHTS = 3;

    private static final int[] ORDERS = {1, 1, 2, 6, 24};

    private final Tape tape = new Tape();
    private final Moment now = new Moment();
    private final Moment[] marks = new Moment[MOST_MARKS];
    private final State[] past = new State[MOST_UNDONE];
    private final State dream = new State();
    private final Day spareDay = new Day();
    private final Walk walk = new Walk();
    private final Speller speller = new Speller();
    private final int[] flueWays = new int[MOST_FLUES];
    private final int[] flueAlike = new int[MOST_FLUES * SIGHTS];
    private Valley valley = new Valley();
    private Valley spareValley = new Valley();
    private int laid;
    private int pastNext;
    private int pastCount;

    public OneSmoke() {
        for (int i = 0; i < MOST_MARKS; i++) {
            marks[i] = new Moment();
        }
        for (int i = 0; i < MOST_UNDONE; i++) {
            past[i] = new State();
        }
    }

    public int feed(long a, long b, long c) {
        tape.add(a);
        tape.add(b);
        tape.add(c);
        return tape.length;
    }

    public int valley() {
        ValleyReader reader = new ValleyReader(tape, spareValley);
        reader.readLines();
        int fault = tape.close();
        if (fault == 0) {
            Valley old = valley;
            valley = spareValley;
            spareValley = old;
            now.begin(valley);
            pastCount = 0;
            laid = 0;
        }
        return fault;
    }

    public int day() {
        spareDay.readFrom(tape, valley);
        int fault = tape.close();
        if (fault == 0) {
            now.day.copy(spareDay);
        }
        return fault;
    }

    public int house(int house, int what) {
        if (!valley.has(HOUSES, house) || what < 0) {
            return OTHERS;
        }
        State state = now.state;
        switch (what) {
            case 0:
                return valley.houseFlue[house];
            case 1:
                return state.fuel[house];
            case 2:
                return state.left[house];
            default:
                return valley.has(FUELS, what - 3) ? state.stockOf(house, what - 3) : OTHERS;
        }
    }

    public int flue(int flue, int what) {
        if (!valley.has(FLUES, flue)) {
            return OTHERS;
        }
        int houses = valley.housesAt(flue);
        switch (what) {
            case 0:
                return now.state.smoke(valley, houses, BY_DARK);
            case 1:
                return now.state.smoke(valley, houses, BY_SWEET);
            case 2:
                return now.state.signAt(valley, flue);
            case 3:
                return now.state.soot[flue];
            case 4:
                return houses;
            default:
                return OTHERS;
        }
    }

    public boolean burn(int house, int fuel) {
        if (!canBurn(house, fuel)) {
            return false;
        }
        remember();
        return now.state.light(valley, house, fuel);
    }

    public int lend(int house, int other, int fuel, int many) {
        if (!valley.has(HOUSES, house) || !valley.has(HOUSES, other) || !valley.has(FUELS, fuel)) {
            return NONE;
        }
        if (!now.state.canHand(house, other, fuel, many)) {
            return NONE;
        }
        remember();
        now.state.hand(house, other, fuel, many);
        return now.state.stockOf(other, fuel);
    }

    public int hour() {
        remember();
        now.reads = 0;
        return now.state.pass(valley);
    }

    public boolean undo() {
        if (pastCount < 1) {
            return false;
        }
        pastCount--;
        pastNext = (pastNext + MOST_UNDONE - 1) % MOST_UNDONE;
        now.state.copy(past[pastNext]);
        now.reads = 0;
        return true;
    }

    public int judged(int what) {
        if (what < 0 || what > 2) {
            return OTHERS;
        }
        dream.begin(valley);
        int wrong = NONE;
        int signs = 0;
        for (int line = 0; line < now.day.lines; line++) {
            if (now.day.isHour(line)) {
                signs += dream.signsRead(valley);
            }
            if (!now.day.play(line, dream, valley) && wrong == NONE) {
                wrong = line;
            }
        }
        return what == 0 ? wrong : what == 1 ? signs : dream.sootOfAll();
    }

    public int spell(int flue, int sign, int second, int house) {
        if (!valley.has(FLUES, flue) || !isSignOrNone(sign)) {
            return OTHERS;
        }
        if (second != OTHERS && !isSignOrNone(second)) {
            return OTHERS;
        }
        if (house != NONE && !valley.has(HOUSES, house)) {
            return OTHERS;
        }
        if (!speller.find(valley, now.state, flue, sign, second)) {
            return OTHERS;
        }
        return house == NONE ? speller.fewest : speller.firstOf(house);
    }

    public int sure(int house, int sign) {
        if (!valley.has(SIGNS, sign)) {
            return NONE;
        }
        for (int fuel = 0; fuel < valley.many[FUELS]; fuel++) {
            if (canBurn(house, fuel)) {
                walk.besides(valley, now, house, fuel);
                if (walk.signSeen[sign] == walk.ways) {
                    return fuel;
                }
            }
        }
        return NONE;
    }

    public int hope(int house, int fuel, int sign) {
        if (!valley.has(SIGNS, sign) || !canBurn(house, fuel)) {
            return NONE;
        }
        walk.besides(valley, now, house, fuel);
        return walk.ways > 0 ? walk.signSeen[sign] * 1000000 / walk.ways : NONE;
    }

    public boolean read(int watcher, int flue, int sign) {
        if (!valley.has(WATCHERS, watcher) || !valley.has(FLUES, flue) || !isSignOrNone(sign)) {
            return false;
        }
        return now.addRead(watcher, flue, sign);
    }

    public int ways(int house) {
        if (house != NONE && (!valley.has(HOUSES, house) || now.state.burns(house))) {
            return OTHERS;
        }
        int all = 1;
        int same = NONE;
        for (int flue = 0; flue < valley.many[FLUES]; flue++) {
            walk.byRead(valley, now, flue);
            all *= walk.ways;
            if (house != NONE && valley.houseFlue[house] == flue) {
                same = walk.sameOf(house);
            }
        }
        if (house == NONE) {
            return all;
        }
        return all == 0 ? NONE : same;
    }

    public int ask() {
        int flues = valley.many[FLUES];
        int all = 1;
        for (int flue = 0; flue < flues; flue++) {
            walk.byRead(valley, now, flue);
            flueWays[flue] = walk.ways;
            flueAlike[flue * SIGHTS + BY_DARK] = walk.mostDark;
            flueAlike[flue * SIGHTS + BY_SWEET] = walk.mostSweet;
            flueAlike[flue * SIGHTS + BY_BOTH] = walk.mostSign;
            all *= walk.ways;
        }
        int least = all;
        int answer = NONE;
        for (int watcher = 0; watcher < valley.many[WATCHERS]; watcher++) {
            for (int flue = 0; flue < flues; flue++) {
                // What burns below one flue leaves the other flues' ways as they are.
                int elsewhere = flueWays[flue] > 0 ? all / flueWays[flue] : 0;
                int most = flueAlike[flue * SIGHTS + valley.sights[watcher]] * elsewhere;
                if (most < least) {
                    least = most;
                    answer = watcher * MOST_FLUES + flue;
                }
            }
        }
        return answer;
    }

    public int blur(int sign, int other) {
        if (!valley.has(SIGNS, sign) || !valley.has(SIGNS, other) || sign == other) {
            return NONE;
        }
        boolean dark = valley.overlap(sign, other, BY_DARK);
        boolean sweet = valley.overlap(sign, other, BY_SWEET);
        int bits = 0;
        for (int watcher = 0; watcher < valley.many[WATCHERS]; watcher++) {
            int sight = valley.sights[watcher];
            if ((dark || sight == BY_SWEET) && (sweet || sight == BY_DARK)) {
                bits |= 1 << watcher;
            }
        }
        return bits;
    }

    public int share(int house) {
        if (!valley.has(HOUSES, house)) {
            return NONE;
        }
        if (!now.state.burns(house)) {
            return 0;
        }
        int fires = now.state.fires() & valley.housesAt(valley.houseFlue[house]);
        int own = 1 << house;
        int others = fires & ~own;
        int count = Integer.bitCount(fires);
        if (count < 1 || count >= ORDERS.length) {
            return 0;
        }
        int sum = 0;
        for (int ahead = 0; ahead <= others; ahead++) {
            if ((ahead & ~others) == 0) {
                int before = Integer.bitCount(ahead);
                int more = now.state.sootBy(valley, ahead | own) - now.state.sootBy(valley, ahead);
                sum += more * ORDERS[before] * ORDERS[count - 1 - before];
            }
        }
        return sum * 1000 / ORDERS[count];
    }

    public int given(int house, int fuel) {
        if (!valley.has(HOUSES, house) || !valley.has(FUELS, fuel)) {
            return NONE;
        }
        int houses = valley.housesAt(valley.houseFlue[house]);
        int all = 0;
        int ahead = 0;
        for (int each = 0; each < valley.many[HOUSES]; each++) {
            if ((houses >> each & 1) != 0) {
                all += now.state.stockOf(each, fuel);
                ahead += each < house ? 1 : 0;
            }
        }
        int count = Integer.bitCount(houses);
        if (count < 1) {
            return NONE;
        }
        return all / count + (ahead < all % count ? 1 : 0);
    }

    public int rests(int one, int other, int oneSign, int otherSign, int gets, int what) throws NoSuchElementException {
        if (!areNeighbours(one, other) || !valley.has(SIGNS, oneSign) || !valley.has(SIGNS, otherSign)) {
            throw new NoSuchElementException();
        }
        if (gets < 0 || gets > 99 || what < NONE) {
            throw new NoSuchElementException();
        }
        int found = 0;
        for (int a = 0; a <= valley.many[FUELS]; a++) {
            for (int b = 0; b <= valley.many[FUELS]; b++) {
                if (isContent(one, a, b, oneSign, gets) && isContent(other, b, a, otherSign, gets)) {
                    if (found == what) {
                        return 10 * a + b;
                    }
                    found++;
                }
            }
        }
        if (what != NONE) {
            throw new NoSuchElementException();
        }
        return found;
    }

    public int years(int seed, int hours, int what) {
        if (seed < 0 || seed > MOST_SEED || hours < 1 || hours > MOST_HOURS || what < 0 || what > 2) {
            return NONE;
        }
        dream.copy(now.state);
        long drawn = seed;
        int signs = 0;
        for (int i = 0; i < hours; i++) {
            drawn = dreamBurns(drawn);
            signs += dream.signsRead(valley);
            dream.pass(valley);
        }
        if (what == 0) {
            return signs;
        }
        return what == 1 ? dream.sootOfAll() - now.state.sootOfAll() : dream.stockOfAll();
    }

    public boolean mark(int mark, boolean back) {
        if (mark < 0 || mark >= MOST_MARKS || (back && (laid >> mark & 1) == 0)) {
            return false;
        }
        if (back) {
            now.copy(marks[mark]);
            pastCount = 0;
        } else {
            marks[mark].copy(now);
            laid |= 1 << mark;
        }
        return true;
    }

    public int count(int what) {
        if (what >= FUELS && what <= WATCHERS) {
            return valley.many[what];
        }
        switch (what) {
            case 5:
                return now.state.hour;
            case 6:
                return valley.windAt(now.state.hour);
            case 7:
                return now.state.fires();
            case 8:
                return now.state.stockOfAll();
            case 9:
                return now.state.sootOfAll();
            case 10:
                return now.day.lines;
            case 11:
                return now.reads;
            case 12:
                return pastCount;
            case 13:
                return tape.length;
            default:
                return NONE;
        }
    }

    private boolean isSignOrNone(int sign) {
        return sign == NONE || valley.has(SIGNS, sign);
    }

    private boolean canBurn(int house, int fuel) {
        return valley.has(HOUSES, house) && valley.has(FUELS, fuel) && now.state.canLight(house, fuel);
    }

    private void remember() {
        past[pastNext].copy(now.state);
        pastNext = (pastNext + 1) % MOST_UNDONE;
        pastCount = Math.min(pastCount + 1, MOST_UNDONE);
    }

    private boolean areNeighbours(int one, int other) {
        if (!valley.has(HOUSES, one) || !valley.has(HOUSES, other) || one == other) {
            return false;
        }
        return valley.houseFlue[one] == valley.houseFlue[other] && !now.state.burns(one) && !now.state.burns(other);
    }

    /** Whether a house can burn this (or none), and would get no more by another one. */
    private boolean isContent(int house, int mine, int his, int wish, int gets) {
        if (!mayTake(house, mine)) {
            return false;
        }
        int gain = gainOf(house, mine, his, wish, gets);
        for (int fuel = 0; fuel <= valley.many[FUELS]; fuel++) {
            if (mayTake(house, fuel) && gainOf(house, fuel, his, wish, gets) > gain) {
                return false;
            }
        }
        return true;
    }

    private boolean mayTake(int house, int fuel) {
        return fuel == valley.many[FUELS] || canBurn(house, fuel);
    }

    private int gainOf(int house, int mine, int his, int wish, int gets) {
        int sign = signWith(valley.houseFlue[house], mine, his);
        return (sign == wish ? gets : 0) - (mine < valley.many[FUELS] ? 1 : 0);
    }

    /** The sign of a flue if two of its houses now lit these beside the fires that burn. */
    private int signWith(int flue, int mine, int his) {
        int houses = valley.housesAt(flue);
        int wind = valley.windAt(now.state.hour);
        int dark = now.state.smoke(valley, houses, BY_DARK);
        dark += valley.fresh(mine, wind, BY_DARK) + valley.fresh(his, wind, BY_DARK);
        int sweet = now.state.smoke(valley, houses, BY_SWEET);
        sweet += valley.fresh(mine, wind, BY_SWEET) + valley.fresh(his, wind, BY_SWEET);
        return valley.signOf(dark, sweet);
    }

    /** One hour's burning by draws, in the dream; answers how far the draws have come. */
    private long dreamBurns(long drawn) {
        int fuels = valley.many[FUELS];
        if (fuels < 1) {
            return drawn;
        }
        long last = drawn;
        for (int house = 0; house < valley.many[HOUSES]; house++) {
            last = (last * 1103515245L + 12345L) % 2147483648L;
            int fuel = (int) (last / 65536L % (fuels + 1));
            if (fuel < fuels) {
                dream.light(valley, house, fuel);
            }
        }
        return last;
    }

    private static int within(int value, int most) {
        return Math.max(0, Math.min(value, most));
    }

    /** The words of the language; the facts of the laws may be names, too. */
    private enum Word {
        FUEL("fuel", true), DARK("dark", true), SWEET("sweet", true), BURNS("burns", true),
        FLUE("flue", true), HOUSE("house", true), AT("at", true), STOCK("stock", true),
        SIGN("sign", true), TO("to", true), WATCHER("watcher", true), SEES("sees", true),
        BOTH("both", true), WINDS("winds", true), GIVES("gives", true), SOOTS("soots", true),
        BURN("burn", true), LEND("lend", true), HOUR("hour", true),
        NOT("not", true), AND("and", true), OR("or", true),
        SHADE("shade", false), SCENT("scent", false), WIND("wind", false),
        LEFT("left", false), SMELT("smelt", false);

        private static final Word[] ALL = values();

        private final long code;
        private final boolean kept;

        Word(String text, boolean kept) {
            long sum = 0;
            for (int i = 0; i < text.length(); i++) {
                sum = sum * 32 + (text.charAt(i) - 'a' + 1);
            }
            this.code = sum;
            this.kept = kept;
        }

        static Word withCode(long code) {
            for (int i = 0; i < ALL.length; i++) {
                if (ALL[i].code == code) {
                    return ALL[i];
                }
            }
            return null;
        }
    }

    /**
     * The signs fed, and the token that a reader stands at. Behind a fault nothing moves on,
     * so readers may go on asking: the first fault is the one that stays.
     */
    private static final class Tape {
        static final int ROOM = 1000;

        static final int WRONG = 1;
        static final int UNTOLD = 2;
        static final int AGAIN = 3;
        static final int RANGE = 4;
        static final int TOO_MANY = 5;

        private static final int NO_TOKEN = 0;
        private static final int END = 1;
        private static final int WORD = 2;
        private static final int NUMBER = 3;
        private static final int LONGEST_WORD = 8;
        private static final int LONGEST_NUMBER = 4;
        private static final String SINGLES = "()<=+-*;";

        private final char[] signs = new char[ROOM];
        private int length;
        private int next;
        private int kind;
        private int place;
        private int number;
        private long name;
        private Word word;
        private int fault;

        void add(long eight) {
            for (int shift = 56; shift >= 0; shift -= 8) {
                int sign = (int) (eight >>> shift) & 255;
                if ((sign == 10 || (sign >= 32 && sign <= 126)) && length < ROOM) {
                    signs[length] = (char) sign;
                    length++;
                }
            }
        }

        void open() {
            next = 0;
            fault = 0;
            step();
        }

        int close() {
            length = 0;
            return fault;
        }

        void fail(int why) {
            if (fault == 0) {
                fault = why + 16 * place;
            }
        }

        boolean isSound() {
            return fault == 0;
        }

        boolean isOver() {
            return fault != 0 || kind == END;
        }

        boolean isAt(Word wanted) {
            return fault == 0 && kind == WORD && word == wanted;
        }

        boolean isAtSign(char sign) {
            return fault == 0 && kind == sign;
        }

        boolean isAtNumber() {
            return fault == 0 && kind == NUMBER;
        }

        boolean isAtName() {
            return fault == 0 && kind == WORD && (word == null || !word.kept);
        }

        void expect(Word wanted) {
            if (!isAt(wanted)) {
                fail(WRONG);
            }
            step();
        }

        void expectSign(char sign) {
            if (!isAtSign(sign)) {
                fail(WRONG);
            }
            step();
        }

        int expectNumber(int least, int most) {
            if (!isAtNumber()) {
                fail(WRONG);
            } else if (number < least || number > most) {
                fail(RANGE);
            }
            int value = number;
            step();
            return value;
        }

        /** The number of the one of a kind that the token names; the reader stays at it. */
        int toldHere(Valley valley, int kindOfName) {
            if (!isAtName()) {
                fail(WRONG);
                return NONE;
            }
            int told = valley.find(kindOfName, name);
            if (told == NONE) {
                fail(UNTOLD);
            }
            return told;
        }

        void step() {
            if (fault != 0) {
                return;
            }
            while (next < length && (signs[next] == ' ' || signs[next] == '\n')) {
                next++;
            }
            place = next;
            word = null;
            if (next >= length) {
                kind = END;
            } else if (isLetter(signs[next])) {
                takeWord();
            } else if (isDigit(signs[next])) {
                takeNumber();
            } else {
                kind = SINGLES.indexOf(signs[next]) >= 0 ? signs[next] : NO_TOKEN;
                next++;
            }
        }

        private void takeWord() {
            name = 0;
            while (next < length && isLetter(signs[next])) {
                name = name * 32 + (signs[next] - 'a' + 1);
                next++;
            }
            if (next - place > LONGEST_WORD) {
                kind = NO_TOKEN;
            } else {
                kind = WORD;
                word = Word.withCode(name);
            }
        }

        private void takeNumber() {
            number = 0;
            while (next < length && isDigit(signs[next])) {
                number = number * 10 + (signs[next] - '0');
                next++;
            }
            kind = next - place > LONGEST_NUMBER ? NO_TOKEN : NUMBER;
        }

        private static boolean isLetter(char sign) {
            return sign >= 'a' && sign <= 'z';
        }

        private static boolean isDigit(char sign) {
            return sign >= '0' && sign <= '9';
        }
    }

    /** An E, kept with what works on values behind these, so that no tree has to be gone through. */
    private static final class Law {
        private static final int DEEPEST = 5;
        // Each level within ( ) leaves at most four values waiting.
        private static final int MOST_WAITING = 32;

        private static final int SHADE = -1;
        private static final int SCENT = -2;
        private static final int WIND = -3;
        private static final int LEFT = -4;
        private static final int SMELT = -5;
        private static final int NOT = -6;
        private static final int AND = -7;
        private static final int OR = -8;
        private static final int LESS = -9;
        private static final int EQUAL = -10;
        private static final int PLUS = -11;
        private static final int MINUS = -12;
        private static final int TIMES = -13;

        private final boolean ofFires;
        private final int[] code = new int[Tape.ROOM];
        private final int[] waiting = new int[MOST_WAITING];
        private int length;

        Law(boolean ofFires) {
            this.ofFires = ofFires;
        }

        void clear() {
            length = 0;
        }

        boolean isTold() {
            return length > 0;
        }

        void readFrom(Tape tape) {
            readTests(tape, 0);
        }

        int worth(int shade, int scent, int wind, int left, int smelt) {
            int top = 0;
            for (int i = 0; i < length; i++) {
                int each = code[i];
                if (each >= SMELT) {
                    if (top < MOST_WAITING) {
                        waiting[top] = each >= 0 ? each : each == SHADE ? shade : each == SCENT ? scent
                            : each == WIND ? wind : each == LEFT ? left : smelt;
                        top++;
                    }
                } else if (each == NOT) {
                    if (top > 0) {
                        waiting[top - 1] = waiting[top - 1] == 0 ? 1 : 0;
                    }
                } else if (top > 1) {
                    top--;
                    waiting[top - 1] = joined(each, waiting[top - 1], waiting[top]);
                }
            }
            return top > 0 ? waiting[0] : 0;
        }

        private static int joined(int by, int a, int b) {
            switch (by) {
                case AND:
                    return a != 0 && b != 0 ? 1 : 0;
                case OR:
                    return a != 0 || b != 0 ? 1 : 0;
                case LESS:
                    return a < b ? 1 : 0;
                case EQUAL:
                    return a == b ? 1 : 0;
                case PLUS:
                    return a + b;
                case MINUS:
                    return a - b;
                default:
                    return a * b;
            }
        }

        private void put(int each) {
            if (length < code.length) {
                code[length] = each;
                length++;
            }
        }

        private void readTests(Tape tape, int depth) {
            readTest(tape, depth);
            for (int i = 0; i < Tape.ROOM; i++) {
                int by = tape.isAt(Word.AND) ? AND : tape.isAt(Word.OR) ? OR : 0;
                if (by == 0) {
                    return;
                }
                tape.step();
                readTest(tape, depth);
                put(by);
            }
        }

        private void readTest(Tape tape, int depth) {
            readSum(tape, depth);
            int by = tape.isAtSign('<') ? LESS : tape.isAtSign('=') ? EQUAL : 0;
            if (by != 0) {
                tape.step();
                readSum(tape, depth);
                put(by);
            }
        }

        private void readSum(Tape tape, int depth) {
            readProduct(tape, depth);
            for (int i = 0; i < Tape.ROOM; i++) {
                int by = tape.isAtSign('+') ? PLUS : tape.isAtSign('-') ? MINUS : 0;
                if (by == 0) {
                    return;
                }
                tape.step();
                readProduct(tape, depth);
                put(by);
            }
        }

        private void readProduct(Tape tape, int depth) {
            readPart(tape, depth);
            for (int i = 0; i < Tape.ROOM && tape.isAtSign('*'); i++) {
                tape.step();
                readPart(tape, depth);
                put(TIMES);
            }
        }

        private void readPart(Tape tape, int depth) {
            int fact = factAt(tape);
            boolean not = tape.isAt(Word.NOT);
            boolean open = tape.isAtSign('(');
            if (!not && !open && !tape.isAtNumber() && fact == 0) {
                tape.fail(Tape.WRONG);
            } else if (depth >= DEEPEST) {
                tape.fail(Tape.TOO_MANY);
            } else if (not) {
                tape.step();
                readPart(tape, depth + 1);
                put(NOT);
            } else if (open) {
                tape.step();
                readTests(tape, depth + 1);
                if (!tape.isAtSign(')')) {
                    tape.fail(Tape.WRONG);
                }
                tape.step();
            } else {
                put(fact != 0 ? fact : tape.number);
                tape.step();
            }
        }

        private int factAt(Tape tape) {
            if (tape.isAt(Word.SHADE)) {
                return SHADE;
            }
            if (tape.isAt(Word.SCENT)) {
                return SCENT;
            }
            if (tape.isAt(Word.WIND)) {
                return WIND;
            }
            if (ofFires && tape.isAt(Word.LEFT)) {
                return LEFT;
            }
            return ofFires && tape.isAt(Word.SMELT) ? SMELT : 0;
        }
    }

    /** What a valley was told to be. */
    private static final class Valley {
        static final int MOST_WINDS = 12;

        private static final int KINDS = 5;
        private static final int MOST_OF_A_KIND = 6;
        private static final int MOST_LEFT = 9;
        private static final int MOST_WIND = 9;
        private static final int UNKNOWN = -1;

        private final int[] many = new int[KINDS];
        private final long[] names = new long[KINDS * MOST_OF_A_KIND];
        private final int[] fuelDark = new int[MOST_FUELS];
        private final int[] fuelSweet = new int[MOST_FUELS];
        private final int[] fuelBurns = new int[MOST_FUELS];
        private final int[] houseFlue = new int[MOST_HOUSES];
        private final int[] stock = new int[MOST_HOUSES * MOST_FUELS];
        private int stockTold;
        private final int[] ranges = new int[MOST_SIGNS * 4];
        private final int[] sights = new int[MOST_WATCHERS];
        private final int[] winds = new int[MOST_WINDS];
        private int windCount;
        private final Law gives = new Law(true);
        private final Law soots = new Law(false);
        // What fires give, once worked out: the same few are asked for again and again.
        private final int[] gifts = new int[MOST_FUELS * (MOST_LEFT + 1) * (MOST_WIND + 1) * 2];

        void clear() {
            Arrays.fill(many, 0);
            Arrays.fill(stock, 0);
            stockTold = 0;
            Arrays.fill(gifts, UNKNOWN);
            windCount = 0;
            gives.clear();
            soots.clear();
        }

        boolean has(int kind, int number) {
            return number >= 0 && number < many[kind];
        }

        int find(int kind, long name) {
            for (int i = 0; i < many[kind]; i++) {
                if (names[kind * MOST_OF_A_KIND + i] == name) {
                    return i;
                }
            }
            return NONE;
        }

        boolean knows(long name) {
            for (int kind = 0; kind < KINDS; kind++) {
                if (find(kind, name) != NONE) {
                    return true;
                }
            }
            return false;
        }

        /** Takes a new one in, whose fields the caller has set already; its limit is looked at ahead. */
        void enter(int kind, long name) {
            if (many[kind] < MOST_OF_A_KIND) {
                names[kind * MOST_OF_A_KIND + many[kind]] = name;
                many[kind]++;
            }
        }

        int housesAt(int flue) {
            int bits = 0;
            for (int house = 0; house < many[HOUSES]; house++) {
                if (houseFlue[house] == flue) {
                    bits |= 1 << house;
                }
            }
            return bits;
        }

        int windAt(int hour) {
            return windCount > 0 && hour >= 0 ? winds[hour % windCount] : 0;
        }

        /** What a fire gives in an hour of this wind, by dark or by sweet. */
        int givesOf(int fuel, int left, int wind, int by) {
            if (fuel < 0 || fuel >= many[FUELS] || left < 1 || left > MOST_LEFT) {
                return 0;
            }
            int at = ((fuel * (MOST_LEFT + 1) + left) * (MOST_WIND + 1) + wind) * 2 + by;
            if (at < 0 || at >= gifts.length) {
                return 0;
            }
            if (gifts[at] == UNKNOWN) {
                int plain = by == BY_DARK ? fuelDark[fuel] : fuelSweet[fuel];
                int worth = gives.isTold() ? gives.worth(fuelDark[fuel], fuelSweet[fuel], wind, left, by) : plain;
                gifts[at] = within(worth, MOST_SMOKE);
            }
            return gifts[at];
        }

        /** What a fuel gives that is lit now; none gives nothing. */
        int fresh(int fuel, int wind, int by) {
            return has(FUELS, fuel) ? givesOf(fuel, fuelBurns[fuel], wind, by) : 0;
        }

        int sootOf(int dark, int sweet, int wind) {
            int worth = soots.isTold() ? soots.worth(dark, sweet, wind, 0, 0) : dark;
            return within(worth, MOST_SMOKE);
        }

        boolean fits(int sign, int value, int by) {
            int at = sign * 4 + by * 2;
            return value >= ranges[at] && value <= ranges[at + 1];
        }

        boolean fitsNone(int value, int by) {
            for (int sign = 0; sign < many[SIGNS]; sign++) {
                if (fits(sign, value, by)) {
                    return false;
                }
            }
            return true;
        }

        boolean overlap(int sign, int other, int by) {
            int at = sign * 4 + by * 2;
            int to = other * 4 + by * 2;
            return ranges[at] <= ranges[to + 1] && ranges[to] <= ranges[at + 1];
        }

        /** The sign of fires' dark and sweet, added up. */
        int signOf(int dark, int sweet) {
            int seenDark = Math.min(dark, MOST_SMOKE);
            int seenSweet = Math.min(sweet, MOST_SMOKE);
            for (int sign = 0; sign < many[SIGNS]; sign++) {
                if (fits(sign, seenDark, BY_DARK) && fits(sign, seenSweet, BY_SWEET)) {
                    return sign;
                }
            }
            return NONE;
        }
    }

    /** Reads a tape as a valley, line by line. */
    private static final class ValleyReader {
        private final Tape tape;
        private final Valley valley;

        ValleyReader(Tape tape, Valley valley) {
            this.tape = tape;
            this.valley = valley;
        }

        void readLines() {
            valley.clear();
            tape.open();
            for (int i = 0; i < Tape.ROOM && !tape.isOver(); i++) {
                if (tape.isAt(Word.FUEL)) {
                    readFuel();
                } else if (tape.isAt(Word.FLUE)) {
                    readFlue();
                } else if (tape.isAt(Word.HOUSE)) {
                    readHouse();
                } else if (tape.isAt(Word.STOCK)) {
                    readStock();
                } else if (tape.isAt(Word.SIGN)) {
                    readSign();
                } else if (tape.isAt(Word.WATCHER)) {
                    readWatcher();
                } else if (tape.isAt(Word.WINDS)) {
                    readWinds();
                } else if (tape.isAt(Word.GIVES)) {
                    readLaw(valley.gives);
                } else if (tape.isAt(Word.SOOTS)) {
                    readLaw(valley.soots);
                } else {
                    tape.fail(Tape.WRONG);
                }
            }
        }

        /** Steps over a line's first word, if one more of its kind may come; answers its number. */
        private int oneMore(int kind, int most) {
            int number = valley.many[kind];
            if (number >= most) {
                tape.fail(Tape.TOO_MANY);
            }
            tape.step();
            return number;
        }

        private long newName() {
            if (!tape.isAtName()) {
                tape.fail(Tape.WRONG);
            } else if (valley.knows(tape.name)) {
                tape.fail(Tape.AGAIN);
            }
            long name = tape.name;
            tape.step();
            return name;
        }

        private void readFuel() {
            int fuel = oneMore(FUELS, MOST_FUELS);
            long name = newName();
            tape.expect(Word.DARK);
            int dark = tape.expectNumber(0, 99);
            tape.expect(Word.SWEET);
            int sweet = tape.expectNumber(0, 99);
            tape.expect(Word.BURNS);
            int burns = tape.expectNumber(1, Valley.MOST_LEFT);
            tape.expectSign(';');
            if (tape.isSound() && fuel < MOST_FUELS) {
                valley.fuelDark[fuel] = dark;
                valley.fuelSweet[fuel] = sweet;
                valley.fuelBurns[fuel] = burns;
                valley.enter(FUELS, name);
            }
        }

        private void readFlue() {
            oneMore(FLUES, MOST_FLUES);
            long name = newName();
            tape.expectSign(';');
            if (tape.isSound()) {
                valley.enter(FLUES, name);
            }
        }

        private void readHouse() {
            int house = oneMore(HOUSES, MOST_HOUSES);
            long name = newName();
            tape.expect(Word.AT);
            int flue = tape.toldHere(valley, FLUES);
            tape.step();
            tape.expectSign(';');
            if (tape.isSound() && house < MOST_HOUSES) {
                valley.houseFlue[house] = flue;
                valley.enter(HOUSES, name);
            }
        }

        private void readStock() {
            tape.step();
            int house = tape.toldHere(valley, HOUSES);
            tape.step();
            int fuel = tape.toldHere(valley, FUELS);
            int at = house * MOST_FUELS + fuel;
            boolean known = tape.isSound() && at >= 0 && at < valley.stock.length;
            if (known && (valley.stockTold >> at & 1) != 0) {
                tape.fail(Tape.AGAIN);
            }
            tape.step();
            int much = tape.expectNumber(0, MOST_STOCK);
            tape.expectSign(';');
            if (known && tape.isSound()) {
                valley.stockTold |= 1 << at;
                valley.stock[at] = much;
            }
        }

        private void readSign() {
            int sign = oneMore(SIGNS, MOST_SIGNS);
            long name = newName();
            tape.expect(Word.DARK);
            readRange(sign, BY_DARK);
            tape.expect(Word.SWEET);
            readRange(sign, BY_SWEET);
            tape.expectSign(';');
            if (tape.isSound()) {
                valley.enter(SIGNS, name);
            }
        }

        private void readRange(int sign, int by) {
            int from = tape.expectNumber(0, MOST_SMOKE);
            tape.expect(Word.TO);
            int to = tape.expectNumber(from, MOST_SMOKE);
            if (tape.isSound() && sign < MOST_SIGNS) {
                valley.ranges[sign * 4 + by * 2] = from;
                valley.ranges[sign * 4 + by * 2 + 1] = to;
            }
        }

        private void readWatcher() {
            int watcher = oneMore(WATCHERS, MOST_WATCHERS);
            long name = newName();
            tape.expect(Word.SEES);
            int sight = BY_BOTH;
            if (tape.isAt(Word.DARK)) {
                sight = BY_DARK;
            } else if (tape.isAt(Word.SWEET)) {
                sight = BY_SWEET;
            } else if (!tape.isAt(Word.BOTH)) {
                tape.fail(Tape.WRONG);
            }
            tape.step();
            tape.expectSign(';');
            if (tape.isSound() && watcher < MOST_WATCHERS) {
                valley.sights[watcher] = sight;
                valley.enter(WATCHERS, name);
            }
        }

        private void readWinds() {
            if (valley.windCount > 0) {
                tape.fail(Tape.AGAIN);
            }
            tape.step();
            readWind();
            for (int i = 0; i < Valley.MOST_WINDS && tape.isAtNumber(); i++) {
                readWind();
            }
            tape.expectSign(';');
        }

        private void readWind() {
            // A thirteenth one that is out of range has the lesser fault of the two.
            boolean tooMany = valley.windCount >= Valley.MOST_WINDS;
            if (tooMany && tape.isAtNumber() && tape.number <= Valley.MOST_WIND) {
                tape.fail(Tape.TOO_MANY);
            }
            int wind = tape.expectNumber(0, Valley.MOST_WIND);
            if (tape.isSound() && !tooMany) {
                valley.winds[valley.windCount] = wind;
                valley.windCount++;
            }
        }

        private void readLaw(Law law) {
            if (law.isTold()) {
                tape.fail(Tape.AGAIN);
            }
            tape.step();
            if (tape.isSound()) {
                law.readFrom(tape);
            }
            tape.expectSign(';');
        }
    }

    /** The lines of a day. */
    private static final class Day {
        private static final int MOST_LINES = 40;
        private static final int CELLS = 5;
        private static final int BURN = 0;
        private static final int LEND = 1;
        private static final int HOUR = 2;

        private final int[] cells = new int[MOST_LINES * CELLS];
        private int lines;

        void clear() {
            lines = 0;
        }

        void copy(Day other) {
            lines = other.lines;
            System.arraycopy(other.cells, 0, cells, 0, lines * CELLS);
        }

        boolean isHour(int line) {
            return line >= 0 && line < lines && cells[line * CELLS] == HOUR;
        }

        /** Does what a line tells; false if it can't be. */
        boolean play(int line, State state, Valley valley) {
            if (line < 0 || line >= lines) {
                return false;
            }
            int at = line * CELLS;
            int house = cells[at + 1];
            int fuel = cells[at + 3];
            if (cells[at] == HOUR) {
                state.pass(valley);
                return true;
            }
            if (cells[at] == BURN) {
                return state.light(valley, house, fuel);
            }
            return state.hand(house, cells[at + 2], fuel, cells[at + 4]);
        }

        void readFrom(Tape tape, Valley valley) {
            lines = 0;
            tape.open();
            for (int i = 0; i <= MOST_LINES && !tape.isOver(); i++) {
                readLine(tape, valley);
            }
        }

        private void readLine(Tape tape, Valley valley) {
            int kind = tape.isAt(Word.BURN) ? BURN : tape.isAt(Word.LEND) ? LEND : tape.isAt(Word.HOUR) ? HOUR : NONE;
            if (kind == NONE) {
                tape.fail(Tape.WRONG);
            } else if (lines >= MOST_LINES) {
                tape.fail(Tape.TOO_MANY);
            }
            tape.step();
            int house = kind == HOUR ? 0 : readHouse(tape, valley, NONE);
            int other = kind == LEND ? readHouse(tape, valley, house) : 0;
            int fuel = 0;
            if (kind != HOUR) {
                fuel = tape.toldHere(valley, FUELS);
                tape.step();
            }
            int much = kind == LEND ? tape.expectNumber(1, MOST_STOCK) : 0;
            tape.expectSign(';');
            if (tape.isSound() && lines < MOST_LINES) {
                int at = lines * CELLS;
                cells[at] = kind;
                cells[at + 1] = house;
                cells[at + 2] = other;
                cells[at + 3] = fuel;
                cells[at + 4] = much;
                lines++;
            }
        }

        private static int readHouse(Tape tape, Valley valley, int besides) {
            int house = tape.toldHere(valley, HOUSES);
            if (house != NONE && house == besides) {
                tape.fail(Tape.AGAIN);
            }
            tape.step();
            return house;
        }
    }

    /** How it is: the hour, what the houses have, their fires, and the soot. */
    private static final class State {
        private int hour;
        private final int[] stock = new int[MOST_HOUSES * MOST_FUELS];
        private final int[] fuel = new int[MOST_HOUSES];
        private final int[] left = new int[MOST_HOUSES];
        private final int[] soot = new int[MOST_FLUES];

        State() {
            Arrays.fill(fuel, NONE);
        }

        void begin(Valley valley) {
            hour = 0;
            System.arraycopy(valley.stock, 0, stock, 0, stock.length);
            Arrays.fill(fuel, NONE);
            Arrays.fill(left, 0);
            Arrays.fill(soot, 0);
        }

        void copy(State other) {
            hour = other.hour;
            System.arraycopy(other.stock, 0, stock, 0, stock.length);
            System.arraycopy(other.fuel, 0, fuel, 0, fuel.length);
            System.arraycopy(other.left, 0, left, 0, left.length);
            System.arraycopy(other.soot, 0, soot, 0, soot.length);
        }

        int stockOf(int house, int ofFuel) {
            if (house < 0 || house >= MOST_HOUSES || ofFuel < 0 || ofFuel >= MOST_FUELS) {
                return 0;
            }
            return stock[house * MOST_FUELS + ofFuel];
        }

        boolean burns(int house) {
            return house >= 0 && house < MOST_HOUSES && left[house] > 0;
        }

        boolean canLight(int house, int ofFuel) {
            return !burns(house) && stockOf(house, ofFuel) > 0;
        }

        /** A house's fire; false if it can't be. */
        boolean light(Valley valley, int house, int ofFuel) {
            if (!canLight(house, ofFuel)) {
                return false;
            }
            stock[house * MOST_FUELS + ofFuel]--;
            fuel[house] = ofFuel;
            left[house] = valley.fuelBurns[ofFuel];
            return true;
        }

        boolean canHand(int house, int other, int ofFuel, int much) {
            if (other < 0 || other >= MOST_HOUSES || other == house) {
                return false;
            }
            return much > 0 && stockOf(house, ofFuel) >= much;
        }

        /** A house's loan to another one; false if it can't be. */
        boolean hand(int house, int other, int ofFuel, int much) {
            if (!canHand(house, other, ofFuel, much)) {
                return false;
            }
            stock[house * MOST_FUELS + ofFuel] -= much;
            int then = stockOf(other, ofFuel) + much;
            stock[other * MOST_FUELS + ofFuel] = Math.min(then, MOST_STOCK);
            return true;
        }

        int fires() {
            int bits = 0;
            for (int house = 0; house < MOST_HOUSES; house++) {
                if (burns(house)) {
                    bits |= 1 << house;
                }
            }
            return bits;
        }

        /** The dark or the sweet of these houses' fires together. */
        int smoke(Valley valley, int houses, int by) {
            int wind = valley.windAt(hour);
            int sum = 0;
            for (int house = 0; house < MOST_HOUSES; house++) {
                if ((houses >> house & 1) != 0) {
                    sum += valley.givesOf(fuel[house], left[house], wind, by);
                }
            }
            return Math.min(sum, MOST_SMOKE);
        }

        int signAt(Valley valley, int flue) {
            int houses = valley.housesAt(flue);
            return valley.signOf(smoke(valley, houses, BY_DARK), smoke(valley, houses, BY_SWEET));
        }

        int signsRead(Valley valley) {
            int signs = 0;
            for (int flue = 0; flue < valley.many[FLUES]; flue++) {
                signs += signAt(valley, flue) == NONE ? 0 : 1;
            }
            return signs;
        }

        /** What soot an hour brings if these houses' fires are all there is below a flue. */
        int sootBy(Valley valley, int houses) {
            int dark = smoke(valley, houses, BY_DARK);
            int sweet = smoke(valley, houses, BY_SWEET);
            return valley.sootOf(dark, sweet, valley.windAt(hour));
        }

        /** Lets the hour pass; answers how many fires went out. */
        int pass(Valley valley) {
            for (int flue = 0; flue < valley.many[FLUES]; flue++) {
                soot[flue] = Math.min(soot[flue] + sootBy(valley, valley.housesAt(flue)), MOST_SOOT);
            }
            int out = 0;
            for (int house = 0; house < MOST_HOUSES; house++) {
                if (burns(house)) {
                    left[house]--;
                    if (left[house] == 0) {
                        fuel[house] = NONE;
                        out++;
                    }
                }
            }
            hour++;
            return out;
        }

        int sootOfAll() {
            int sum = 0;
            for (int flue = 0; flue < MOST_FLUES; flue++) {
                sum += soot[flue];
            }
            return sum;
        }

        int stockOfAll() {
            int sum = 0;
            for (int i = 0; i < stock.length; i++) {
                sum += stock[i];
            }
            return sum;
        }
    }

    /** All that a mark holds: how it is, the day, and what is read. */
    private static final class Moment {
        private static final int MOST_READS = 8;

        private final State state = new State();
        private final Day day = new Day();
        private final int[] readWatcher = new int[MOST_READS];
        private final int[] readFlue = new int[MOST_READS];
        private final int[] readSign = new int[MOST_READS];
        private int reads;

        void begin(Valley valley) {
            state.begin(valley);
            day.clear();
            reads = 0;
        }

        void copy(Moment other) {
            state.copy(other.state);
            day.copy(other.day);
            reads = other.reads;
            System.arraycopy(other.readWatcher, 0, readWatcher, 0, MOST_READS);
            System.arraycopy(other.readFlue, 0, readFlue, 0, MOST_READS);
            System.arraycopy(other.readSign, 0, readSign, 0, MOST_READS);
        }

        boolean addRead(int watcher, int flue, int sign) {
            if (reads >= MOST_READS) {
                return false;
            }
            readWatcher[reads] = watcher;
            readFlue[reads] = flue;
            readSign[reads] = sign;
            reads++;
            return true;
        }

        /** Whether all that was read over a flue is so if it has this dark, this sweet and this sign. */
        boolean agrees(Valley valley, int flue, int dark, int sweet, int sign) {
            for (int i = 0; i < reads; i++) {
                int seen = readSign[i];
                int sight = valley.sights[readWatcher[i]];
                int value = sight == BY_DARK ? dark : sweet;
                boolean so = sight == BY_BOTH ? sign == seen
                    : seen == NONE ? valley.fitsNone(value, sight) : valley.fits(seen, value, sight);
                if (readFlue[i] == flue && !so) {
                    return false;
                }
            }
            return true;
        }
    }

    /** Goes through the ways in which the houses of a flue may burn now, and counts what they show. */
    private static final class Walk {
        private final int[] houses = new int[MOST_HOUSES];
        private final int[] choices = new int[MOST_HOUSES];
        private final int[] chosen = new int[MOST_HOUSES];
        private final int[] same = new int[MOST_HOUSES];
        private final int[] darkSeen = new int[MOST_SMOKE + 1];
        private final int[] sweetSeen = new int[MOST_SMOKE + 1];
        // Behind the signs stands how often none was read.
        private final int[] signSeen = new int[MOST_SIGNS + 1];
        private Valley valley;
        private Moment moment;
        private boolean minded;
        private int flue;
        private int count;
        private int wind;
        private int ways;
        private int mostDark;
        private int mostSweet;
        private int mostSign;

        /** The ways of all houses of a flue by which what was read over it is so. */
        void byRead(Valley in, Moment at, int overFlue) {
            minded = true;
            go(in, at, overFlue, NONE, NONE);
        }

        /** The ways of a house's neighbours if the house itself burns this fuel. */
        void besides(Valley in, Moment at, int house, int fuel) {
            minded = false;
            go(in, at, in.houseFlue[house], house, fuel);
        }

        /** What a house burns by all ways gone through (as many as fuels: none); NONE: not the same. */
        int sameOf(int house) {
            for (int i = 0; i < count; i++) {
                if (houses[i] == house && ways > 0) {
                    return same[i];
                }
            }
            return NONE;
        }

        private void go(Valley in, Moment at, int overFlue, int pinned, int pinnedFuel) {
            valley = in;
            moment = at;
            flue = overFlue;
            wind = in.windAt(at.state.hour);
            ways = 0;
            mostDark = 0;
            mostSweet = 0;
            mostSign = 0;
            Arrays.fill(darkSeen, 0);
            Arrays.fill(sweetSeen, 0);
            Arrays.fill(signSeen, 0);
            count = 0;
            for (int house = 0; house < in.many[HOUSES]; house++) {
                if (in.houseFlue[house] == overFlue && !at.state.burns(house)) {
                    houses[count] = house;
                    choices[count] = house == pinned ? 1 << pinnedFuel : choicesOf(house);
                    count++;
                }
            }
            int all = in.housesAt(overFlue);
            choose(0, at.state.smoke(in, all, BY_DARK), at.state.smoke(in, all, BY_SWEET));
        }

        private int choicesOf(int house) {
            int fuels = valley.many[FUELS];
            int bits = 1 << fuels;
            for (int fuel = 0; fuel < fuels; fuel++) {
                if (moment.state.canLight(house, fuel)) {
                    bits |= 1 << fuel;
                }
            }
            return bits;
        }

        private void choose(int i, int dark, int sweet) {
            if (i >= count) {
                look(Math.min(dark, MOST_SMOKE), Math.min(sweet, MOST_SMOKE));
                return;
            }
            for (int fuel = 0; fuel <= valley.many[FUELS]; fuel++) {
                if ((choices[i] >> fuel & 1) != 0) {
                    chosen[i] = fuel;
                    int moreDark = valley.fresh(fuel, wind, BY_DARK);
                    int moreSweet = valley.fresh(fuel, wind, BY_SWEET);
                    choose(i + 1, dark + moreDark, sweet + moreSweet);
                }
            }
        }

        private void look(int dark, int sweet) {
            int sign = valley.signOf(dark, sweet);
            if (minded && !moment.agrees(valley, flue, dark, sweet, sign)) {
                return;
            }
            int signAt = sign == NONE ? MOST_SIGNS : sign;
            ways++;
            darkSeen[dark]++;
            sweetSeen[sweet]++;
            signSeen[signAt]++;
            mostDark = Math.max(mostDark, darkSeen[dark]);
            mostSweet = Math.max(mostSweet, sweetSeen[sweet]);
            mostSign = Math.max(mostSign, signSeen[signAt]);
            for (int i = 0; i < count; i++) {
                if (ways == 1) {
                    same[i] = chosen[i];
                } else if (same[i] != chosen[i]) {
                    same[i] = NONE;
                }
            }
        }
    }

    /**
     * Finds the fewest fuels by which a row of signs is read. In the second hour a house shows nothing, a fuel
     * lit then, or one that lasts: by which of these together the second sign is read is worked out once, so
     * that it need not be asked again behind each row of the first hour.
     */
    private static final class Speller {
        private static final int LIT = 1;
        private static final int LASTING = LIT + MOST_FUELS;
        private static final int SHOWS = LASTING + MOST_FUELS;
        private static final int CHOICES = MOST_FUELS + 1;
        private static final int LAST = MOST_HOUSES - 1;
        private static final int TOO_MANY = 2 * MOST_HOUSES + 1;

        private final int[] houses = new int[MOST_HOUSES];
        private final int[] row = new int[MOST_HOUSES];
        private final int[] best = new int[MOST_HOUSES];
        // Of each house: what it may show then, as bits, and what it gives by that.
        private final int[] shows = new int[MOST_HOUSES];
        private final int[] darkThen = new int[MOST_HOUSES * SHOWS];
        private final int[] sweetThen = new int[MOST_HOUSES * SHOWS];
        // Of each house behind what it burnt first: what it shows without a new fuel, and the fuels it may light, as bits.
        private final int[] idle = new int[MOST_HOUSES * CHOICES];
        private final int[] fresh = new int[MOST_HOUSES * CHOICES];
        // Behind what the others show: by what the last house shows the second sign is read, as bits.
        private final int[] reading = new int[SHOWS * SHOWS * SHOWS];
        private Valley valley;
        private State state;
        private int count;
        private int sign;
        private int second;
        private int fewest;

        /** Whether it can be; fewest tells by how many then. */
        boolean find(Valley in, State at, int flue, int firstSign, int secondSign) {
            valley = in;
            state = at;
            sign = firstSign;
            second = secondSign;
            count = 0;
            Arrays.fill(houses, NONE);
            Arrays.fill(row, NONE);
            for (int house = 0; house < in.many[HOUSES]; house++) {
                if (in.houseFlue[house] == flue) {
                    houses[count] = house;
                    count++;
                }
            }
            if (secondSign != OTHERS) {
                for (int i = 0; i <= LAST; i++) {
                    prepare(i);
                }
                Arrays.fill(reading, 0);
                note(0, 0, 0, 0);
            }
            fewest = TOO_MANY;
            goFirst(0, 0, 0, 0);
            return fewest < TOO_MANY;
        }

        int firstOf(int house) {
            for (int i = 0; i < count; i++) {
                if (houses[i] == house) {
                    return best[i];
                }
            }
            return NONE;
        }

        /** What the i-th house may do in the second hour; a place without a house shows nothing. */
        private void prepare(int i) {
            shows[i] = 0;
            prepareBehind(i, NONE);
            for (int fuel = 0; fuel < valley.many[FUELS]; fuel++) {
                if (state.canLight(houses[i], fuel)) {
                    prepareBehind(i, fuel);
                }
            }
        }

        private void prepareBehind(int i, int lit) {
            int house = houses[i];
            boolean burns = state.burns(house);
            int old = burns ? state.fuel[house] : lit;
            int left = burns ? state.left[house] - 1 : lit == NONE ? 0 : valley.fuelBurns[lit] - 1;
            int at = i * CHOICES + lit + 1;
            idle[at] = 0;
            fresh[at] = 0;
            if (left > 0) {
                idle[at] = LASTING + old;
                keep(i, LASTING + old, old, left);
            } else {
                for (int fuel = 0; fuel < valley.many[FUELS]; fuel++) {
                    if (state.stockOf(house, fuel) > (fuel == lit ? 1 : 0)) {
                        fresh[at] |= 1 << fuel;
                        keep(i, LIT + fuel, fuel, valley.fuelBurns[fuel]);
                    }
                }
            }
            shows[i] |= 1 << idle[at] | fresh[at] << LIT;
        }

        private void keep(int i, int show, int fuel, int left) {
            int wind = valley.windAt(state.hour + 1);
            darkThen[i * SHOWS + show] = valley.givesOf(fuel, left, wind, BY_DARK);
            sweetThen[i * SHOWS + show] = valley.givesOf(fuel, left, wind, BY_SWEET);
        }

        /** Notes by what the houses from the i-th one on show the second sign is read. */
        private void note(int i, int at, int dark, int sweet) {
            for (int show = 0; show < SHOWS; show++) {
                if ((shows[i] >> show & 1) != 0) {
                    int allDark = dark + darkThen[i * SHOWS + show];
                    int allSweet = sweet + sweetThen[i * SHOWS + show];
                    if (i < LAST) {
                        note(i + 1, at * SHOWS + show, allDark, allSweet);
                    } else if (valley.signOf(allDark, allSweet) == second) {
                        reading[at] |= 1 << show;
                    }
                }
            }
        }

        /** Goes on from the i-th house in the first hour; the row that is taken is the first of the fewest fuels. */
        private void goFirst(int i, int dark, int sweet, int burnt) {
            if (burnt >= fewest) {
                return;
            }
            if (i >= count) {
                if (valley.signOf(dark, sweet) == sign) {
                    take(second == OTHERS ? burnt : fewestThen(0, 0, burnt, fewest));
                }
                return;
            }
            int house = houses[i];
            int wind = valley.windAt(state.hour);
            if (state.burns(house)) {
                int moreDark = valley.givesOf(state.fuel[house], state.left[house], wind, BY_DARK);
                int moreSweet = valley.givesOf(state.fuel[house], state.left[house], wind, BY_SWEET);
                goFirst(i + 1, dark + moreDark, sweet + moreSweet, burnt);
                return;
            }
            for (int fuel = 0; fuel < valley.many[FUELS]; fuel++) {
                if (state.canLight(house, fuel)) {
                    row[i] = fuel;
                    int moreDark = valley.fresh(fuel, wind, BY_DARK);
                    int moreSweet = valley.fresh(fuel, wind, BY_SWEET);
                    goFirst(i + 1, dark + moreDark, sweet + moreSweet, burnt + 1);
                }
            }
            row[i] = NONE;
            goFirst(i + 1, dark, sweet, burnt);
        }

        private void take(int fuels) {
            if (fuels < fewest) {
                fewest = fuels;
                System.arraycopy(row, 0, best, 0, row.length);
            }
        }

        /** The fewest fuels of both hours behind the first one's row, from the i-th house on; most, if not fewer. */
        private int fewestThen(int i, int at, int burnt, int most) {
            int choice = i * CHOICES + row[i] + 1;
            if (i >= LAST) {
                if ((reading[at] >> idle[choice] & 1) != 0) {
                    return burnt;
                }
                return (reading[at] >> LIT & fresh[choice]) != 0 ? burnt + 1 : most;
            }
            int least = fewestThen(i + 1, at * SHOWS + idle[choice], burnt, most);
            for (int fuel = 0; fuel < valley.many[FUELS] && burnt + 1 < least; fuel++) {
                if ((fresh[choice] >> fuel & 1) != 0) {
                    least = fewestThen(i + 1, at * SHOWS + LIT + fuel, burnt + 1, least);
                }
            }
            return least;
        }
    }
}
