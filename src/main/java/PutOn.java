/**
 * Which clocks have been put on, by whom, how likely that is, and what time it is.
 * The words in capitals are those of ../shared/DOC.md, which says what each call does.
 */
public final class PutOn {
    public static final int NONE = -1, BAD = -2, STATE = -3, FULL = -4;
    public static final long NO = -4611686018427387904L;

    private static final int NOTHING = -11, OUTSIDE = -12, UNLIKE = -13, BELOW = -14;
    private static final int NO_SUCH = -1000, NOWHERE = -100000, FAULT = -100;
    private static final int MOST_CLOCKS = 6, MOST_DOERS = 5, MOST_ROOMS = 6, MOST_WORLDS = 32;
    private static final int MOST_TEXTS = 6, MOST_BYTES = 160, MOST_SHEETS = 4, MOST_CELLS = 40;
    private static final int MOST_SEEDS = 20;
    private static final int HOUR = 60, DAY = 1440, FARTHEST = 120;

    // what set() and told() call by these numbers, and between which bounds it is
    private static final int OFF = 0, ROOM = 1, SELF = 2, SAW = 3, NUMBER = 4, WAY = 5, KIND = 6, CAME_OF = 7;
    private static final int[] LEAST = {-120, 0, 0, -1, 0, 0};
    private static final int[] MOST = {120, 5, 1, 1439, 9, 63};

    private static final int DOER = 0, TRUSTING = 1, SHY = 2, MARKING = 3, HALVING = 4, ZEALOUS = 5;
    private static final int KINDS = 6;
    // under which KIND each KIND stands
    private static final int[] ABOVE = {-1, 0, 0, 1, 2, 0};

    // the three parts of a TEXT
    private static final int PART_CAME = 0, PART_ADDS = 1, PART_MINDS = 2, PARTS = 3;

    // TOKENS: NAMES (0 .. 5), KEYS (6 .. 11), signs by their byte, a number as DIGITS and its value
    private static final int NAMES = 6;
    private static final int KEY_CAME = 6, KEY_ADDS = 7, KEY_MINDS = 8, OR = 9, AND = 10, NOT = 11, WORDS = 12;
    private static final int NEGATED = 12;
    private static final int DIGITS = 100;
    private static final int END = -1, NO_TOKEN = -2;
    private static final int DEEPEST = 5, LONGEST_NUMBER = 4;

    private static final int MISSING = -1, BYTES = 0, SHORTS = 1, INTS = 2;

    private final Worlds worlds = new Worlds();
    private final House house = worlds.house;
    private final House kept = new House();
    private boolean isKept = false;
    private final Text[] texts = new Text[MOST_TEXTS];
    private int textCount = 1;
    private final int[] tape = new int[MOST_BYTES];
    private int tapeSize = 0;
    private final Reader reader = new Reader();
    private final Known known = new Known();
    private final Sheet[] sheets = new Sheet[MOST_SHEETS];

    public PutOn() {
        for (int i = 0; i < MOST_TEXTS; i++) {
            texts[i] = new Text();
        }
        for (int i = 0; i < MOST_SHEETS; i++) {
            sheets[i] = new Sheet();
        }
        texts[0].emit(DIGITS + 50);
        texts[0].close(PART_CAME);
        texts[0].emit(DIGITS + 60);
        texts[0].close(PART_ADDS);
        texts[0].emit(DIGITS + 1);
        texts[0].close(PART_MINDS);
    }

    // ---- clocks, doers

    public int clock(int what, int off) {
        if (what < 0 || !canBe(ROOM, what / 10) || !canBe(SELF, what % 10) || !canBe(OFF, off)) {
            return BAD;
        }
        if (house.clockCount >= MOST_CLOCKS) {
            return FULL;
        }
        Clock clock = house.clocks[house.clockCount];
        clock.room = what / 10;
        clock.self = what % 10;
        clock.off = off;
        clock.saw = NONE;
        worlds.stale = true;
        return house.clockCount++;
    }

    public int doer(int kind, int number, int way) {
        if (!isKind(kind) || !canBe(NUMBER, number) || !canBe(WAY, way)) {
            return BAD;
        }
        if (house.doerCount >= MOST_DOERS) {
            return FULL;
        }
        Doer doer = house.doers[house.doerCount];
        doer.kind = kind;
        doer.number = number;
        doer.way = way;
        worlds.stale = true;
        return house.doerCount++;
    }

    public int set(int what, int of, int v) {
        if (!canBe(what, v) || !(what <= SAW ? isClock(of) : isDoer(of))) {
            return NO_SUCH;
        }
        worlds.stale = true;
        return what <= SAW ? house.clocks[of].put(what, v) : house.doers[of].put(what, v);
    }

    public int told(int of, int what) {
        if (what >= OFF && what <= SAW && isClock(of)) {
            return house.clocks[of].tell(what);
        }
        if (what >= NUMBER && what <= KIND && isDoer(of)) {
            return house.doers[of].tell(what);
        }
        if (what == CAME_OF && isDoer(of)) {
            return worked().came[of];
        }
        return NO_SUCH;
    }

    // ---- texts

    public int feed(int letter) {
        if (letter < 0 || letter > 255) {
            return BAD;
        }
        if (tapeSize >= MOST_BYTES) {
            return FULL;
        }
        tape[tapeSize] = letter;
        tapeSize++;
        return tapeSize;
    }

    public int text() {
        if (textCount >= MOST_TEXTS) {
            return FULL;
        }
        int fault = reader.read(tape, tapeSize);
        tapeSize = 0;
        if (fault != NONE) {
            return FAULT - fault;
        }
        texts[textCount].become(reader.text);
        return textCount++;
    }

    public int force(int text) {
        if (text < 0 || text >= textCount) {
            return BAD;
        }
        int was = house.rule;
        house.rule = text;
        worlds.stale = true;
        return was;
    }

    // ---- worlds

    public int at(int clock, int world, int what) {
        if (!isClock(clock) || !isWorld(world)) {
            return NOWHERE;
        }
        switch (what) {
            case 0:
                return worked().at[world][clock];
            case 1:
                return worked().done[world][clock];
            case 2:
                return worked().right[world] >> clock & 1;
            default:
                return NOWHERE;
        }
    }

    public int right(int world, int what) {
        if (!isWorld(world)) {
            return NOWHERE;
        }
        switch (what) {
            case 0:
                return worked().right[world];
            case 1:
                return worked().fits[world] ? 1 : 0;
            case 2:
                return worked().times[world];
            default:
                return NOWHERE;
        }
    }

    public long world(int world) {
        if (world == NONE) {
            return worked().all;
        }
        return isWorld(world) ? worked().chances[world] : NO;
    }

    // ---- what is known

    public long odds(int clock, int part) {
        if (!isClock(clock) || !isPart(part)) {
            return NO;
        }
        Worlds now = worked();
        return lowest(known.chanceRight(now, clock), now.all, part);
    }

    public int time(int what) {
        if (what == 0) {
            return known.likeliestTime(worked());
        }
        return what == 1 ? known.unlikeTimes(worked()) : BAD;
    }

    public long sure(int part) {
        Worlds now = worked();
        if (!isPart(part) || known.likeliestTime(now) == NONE) {
            return NO;
        }
        return lowest(known.chanceOfTime(now), now.all, part);
    }

    public int look() {
        return known.nextToSee(worked());
    }

    public int fewest() {
        return known.fewestThatTell(worked());
    }

    public int ask() {
        return known.whomToAsk(worked());
    }

    // ---- how good, how bad

    public int say(int what) {
        if (what != 0 && what != 1) {
            return BAD;
        }
        Worlds now = worked();
        int best = known.worldOfMostRight(now);
        return what == 0 ? best : Integer.bitCount(now.right[best]);
    }

    public long bad(int part) {
        if (!isPart(part)) {
            return NO;
        }
        Worlds now = worked();
        return lowest(known.badness(now), now.all, part);
    }

    public int late(int clock) {
        return isClock(clock) ? known.latest(worked(), clock) : BAD;
    }

    public int live(int world) {
        if (!isWorld(world)) {
            return BAD;
        }
        Worlds now = worked();
        for (int c = 0; c < house.clockCount; c++) {
            Clock clock = house.clocks[c];
            clock.off = bounded(now.at[world][c] - HOUR, -FARTHEST, FARTHEST);
            clock.saw = NONE;
        }
        worlds.stale = true;
        return Integer.bitCount(now.right[world]);
    }

    // ---- told back

    public int tellsBack(int sheet, int what) {
        if (!isSheet(sheet) || what < 0 || what > 2) {
            return BAD;
        }
        Sheet telling = sheets[sheet];
        if (telling.sort == MISSING) {
            return NOTHING;
        }
        if (telling.size != house.clockCount) {
            return BAD;
        }
        switch (what) {
            case 0:
                return known.howManyAsTold(worked(), telling);
            case 1:
                return known.likeliestAsTold(worked(), telling);
            default:
                return known.whoCameAsTold(worked(), telling);
        }
    }

    public int film(int sheet, int world) {
        if (!isSheet(sheet) || !isWorld(world)) {
            return BAD;
        }
        int right = worked().right[world];
        Sheet picture = sheets[sheet];
        picture.become(BYTES, house.clockCount);
        for (int c = 0; c < house.clockCount; c++) {
            picture.put(c, right >> c & 1);
        }
        return house.clockCount;
    }

    public int drawn(int seed) {
        Worlds now = worked();
        return now.right[now.draw(seed)];
    }

    public long chance(int seed, int n, int part) {
        if (n < 1 || n > MOST_SEEDS || !isPart(part)) {
            return NO;
        }
        Worlds now = worked();
        int every = (1 << house.clockCount) - 1;
        int good = 0;
        for (int i = 0; i < n; i++) {
            if (now.right[now.draw(seed + i)] == every) {
                good++;
            }
        }
        return lowest(good, n, part);
    }

    public int image() {
        kept.become(house);
        isKept = true;
        return kept.clockCount;
    }

    public int back() {
        if (!isKept) {
            return STATE;
        }
        house.become(kept);
        worlds.stale = true;
        return house.clockCount;
    }

    public int count(int what) {
        switch (what) {
            case 0:
                return house.clockCount;
            case 1:
                return house.doerCount;
            case 2:
                return house.seen();
            case 3:
                return textCount;
            case 4:
                return tapeSize;
            case 5:
                return house.rule;
            default:
                return BAD;
        }
    }

    // ---- the host

    public int sheet(int sheet, int sort, int n) {
        if (!isSheet(sheet)) {
            return BAD;
        }
        if (sort == MISSING) {
            sheets[sheet].become(MISSING, 0);
            return 1;
        }
        if (!isSort(sort) || n > MOST_CELLS) {
            return BAD;
        }
        if (n < 0) {
            return BELOW;
        }
        sheets[sheet].become(sort, n);
        return 1;
    }

    public int cell(int sheet, int i, int v) {
        if (!isSheet(sheet)) {
            return BAD;
        }
        Sheet row = sheets[sheet];
        if (row.sort == MISSING) {
            return NOTHING;
        }
        if (!row.holds(i, 1)) {
            return OUTSIDE;
        }
        row.put(i, v);
        return 1;
    }

    public int copy(int sheet, int i, int other, int j, int n) {
        if (!isSheet(sheet) || !isSheet(other)) {
            return BAD;
        }
        Sheet from = sheets[sheet];
        Sheet to = sheets[other];
        if (from.sort == MISSING || to.sort == MISSING) {
            return NOTHING;
        }
        if (from.sort != to.sort) {
            return UNLIKE;
        }
        if (!from.holds(i, n) || !to.holds(j, n)) {
            return OUTSIDE;
        }
        System.arraycopy(from.cells, i, to.cells, j, n);
        return n;
    }

    public int clocks(int sheet, int sort, int from, int n) {
        if (!isSheet(sheet) || !isSort(sort) || n < 0 || n > MOST_CLOCKS) {
            return BAD;
        }
        Sheet row = sheets[sheet];
        if (row.sort == MISSING) {
            return NOTHING;
        }
        if (row.sort != sort) {
            return UNLIKE;
        }
        int came = 0;
        for (int k = 0; k < n; k++) {
            // looked at pair by pair: what stood ahead of a place outside comes all the same
            if (!row.holds(from, 2 * k + 2)) {
                return OUTSIDE;
            }
            if (clock(row.cells[from + 2 * k], row.cells[from + 2 * k + 1]) >= 0) {
                came++;
            }
        }
        return came;
    }

    public int taken(int doer, int k) {
        if (!isKind(k)) {
            return BAD;
        }
        if (!isDoer(doer)) {
            return NOTHING;
        }
        return house.doers[doer].isUnder(k) ? house.doers[doer].number : UNLIKE;
    }

    // ---- of one's own

    private Worlds worked() {
        if (worlds.stale) {
            worlds.work(texts[house.rule]);
        }
        return worlds;
    }

    private boolean isClock(int of) {
        return of >= 0 && of < house.clockCount;
    }

    private boolean isDoer(int of) {
        return of >= 0 && of < house.doerCount;
    }

    private boolean isWorld(int of) {
        return of >= 0 && of < 1 << house.doerCount;
    }

    private static boolean isKind(int of) {
        return of >= 0 && of < KINDS;
    }

    private static boolean isSheet(int of) {
        return of >= 0 && of < MOST_SHEETS;
    }

    private static boolean isSort(int of) {
        return of >= BYTES && of <= INTS;
    }

    private static boolean isPart(int part) {
        return part == 0 || part == 1;
    }

    private static boolean canBe(int what, int v) {
        return what >= OFF && what <= WAY && v >= LEAST[what] && v <= MOST[what];
    }

    private static int bounded(int v, int least, int most) {
        return Math.max(least, Math.min(most, v));
    }

    // a part of above by below in lowest terms; NO: below is 0
    private static long lowest(long above, long below, int part) {
        long a = above;
        long b = below;
        // each second rest is less than half of what it was: 200 are far more than a long needs
        for (int i = 0; i < 200 && b != 0; i++) {
            long rest = a % b;
            a = b;
            b = rest;
        }
        if (below == 0 || a == 0) {
            return NO;
        }
        return (part == 0 ? above : below) / a;
    }

    private static final class Clock {
        int room = 0;
        int off = 0;
        int self = 0;
        int saw = NONE;

        int tell(int what) {
            switch (what) {
                case OFF:
                    return off;
                case ROOM:
                    return room;
                case SELF:
                    return self;
                default:
                    return saw;
            }
        }

        int put(int what, int v) {
            int was = tell(what);
            switch (what) {
                case OFF:
                    off = v;
                    break;
                case ROOM:
                    room = v;
                    break;
                case SELF:
                    self = v;
                    break;
                default:
                    saw = v;
                    break;
            }
            return was;
        }

        void become(Clock other) {
            room = other.room;
            off = other.off;
            self = other.self;
            saw = other.saw;
        }
    }

    private static final class Doer {
        int kind = DOER;
        int number = 0;
        int way = 0;

        int tell(int what) {
            switch (what) {
                case NUMBER:
                    return number;
                case WAY:
                    return way;
                default:
                    return kind;
            }
        }

        int put(int what, int v) {
            int was = tell(what);
            if (what == NUMBER) {
                number = v;
            } else {
                way = v;
            }
            return was;
        }

        void become(Doer other) {
            kind = other.kind;
            number = other.number;
            way = other.way;
        }

        boolean isUnder(int k) {
            int above = kind;
            for (int i = 0; i < KINDS && isKind(above); i++) {
                if (above == k) {
                    return true;
                }
                above = ABOVE[above];
            }
            return false;
        }

        int rooms() {
            return Integer.bitCount(way);
        }

        boolean goesTo(int room) {
            return (way >> room & 1) == 1;
        }

        boolean does(int clock, int done, int behind, int ahead) {
            switch (kind) {
                case TRUSTING:
                    return trusts(behind);
                case SHY:
                    return dares(ahead);
                case MARKING:
                    return trusts(behind) && done <= 0;
                case HALVING:
                    return dares(ahead) && (clock + number) % 2 == 0;
                case ZEALOUS:
                    return done <= 1;
                default:
                    return true;
            }
        }

        private boolean trusts(int behind) {
            return behind >= 30;
        }

        private boolean dares(int ahead) {
            return ahead <= number / 4;
        }

        int adds(int v, int behind) {
            switch (kind) {
                case TRUSTING:
                    return behind;
                case MARKING:
                    return Math.min(behind, HOUR);
                case HALVING:
                    return v / 2;
                case ZEALOUS:
                    return number > 4 ? 2 * v : v;
                default:
                    return v;
            }
        }
    }

    // the CLOCKS, the DOERS and THE RULE: what AN IMAGE keeps
    private static final class House {
        final Clock[] clocks = new Clock[MOST_CLOCKS];
        final Doer[] doers = new Doer[MOST_DOERS];
        int clockCount = 0;
        int doerCount = 0;
        int rule = 0;

        House() {
            for (int c = 0; c < MOST_CLOCKS; c++) {
                clocks[c] = new Clock();
            }
            for (int d = 0; d < MOST_DOERS; d++) {
                doers[d] = new Doer();
            }
        }

        void become(House other) {
            for (int c = 0; c < MOST_CLOCKS; c++) {
                clocks[c].become(other.clocks[c]);
            }
            for (int d = 0; d < MOST_DOERS; d++) {
                doers[d].become(other.doers[d]);
            }
            clockCount = other.clockCount;
            doerCount = other.doerCount;
            rule = other.rule;
        }

        int seen() {
            int seen = 0;
            for (int c = 0; c < clockCount; c++) {
                if (clocks[c].saw != NONE) {
                    seen++;
                }
            }
            return seen;
        }
    }

    // a TEXT as it is reckoned: each part's TOKENS, a sign behind that which it is of
    private static final class Text {
        final int[] code = new int[MOST_BYTES];
        final int[] ends = new int[PARTS];
        final int[] stack = new int[MOST_BYTES];
        int size = 0;
        int top = 0;

        void become(Text other) {
            System.arraycopy(other.code, 0, code, 0, other.size);
            System.arraycopy(other.ends, 0, ends, 0, PARTS);
            size = other.size;
        }

        void emit(int token) {
            if (size < code.length) {
                code[size] = token;
                size++;
            }
        }

        void close(int part) {
            ends[part] = size;
        }

        int tells(int part, int[] names) {
            top = 0;
            for (int i = part == 0 ? 0 : ends[part - 1]; i < ends[part]; i++) {
                int token = code[i];
                if (token >= DIGITS) {
                    push(token - DIGITS);
                } else if (token >= 0 && token < NAMES) {
                    push(names[token]);
                } else if (token == NEGATED) {
                    push(-pop());
                } else if (token == NOT) {
                    push(pop() == 0 ? 1 : 0);
                } else {
                    int second = pop();
                    push(joined(pop(), token, second));
                }
            }
            return pop();
        }

        private void push(int v) {
            if (top < stack.length) {
                stack[top] = v;
                top++;
            }
        }

        private int pop() {
            if (top <= 0) {
                return 0;
            }
            top--;
            return stack[top];
        }

        private static int joined(int first, int sign, int second) {
            switch (sign) {
                case OR:
                    return first != 0 || second != 0 ? 1 : 0;
                case AND:
                    return first != 0 && second != 0 ? 1 : 0;
                case '<':
                    return first < second ? 1 : 0;
                case '=':
                    return first == second ? 1 : 0;
                case '+':
                    return first + second;
                case '-':
                    return first - second;
                default:
                    return first * second;
            }
        }
    }

    // reads THE TAPE: into TOKENS first, then by the grammar, which never goes past one that can't stand
    private static final class Reader {
        final int[] tokens = new int[MOST_BYTES + 1];
        final int[] places = new int[MOST_BYTES + 1];
        final int[] ends = new int[MOST_BYTES + 1];
        int count = 0;
        int next = 0;
        final Text text = new Text();

        // the place of the FAULT; NONE: it is a TEXT
        int read(int[] tape, int size) {
            split(tape, size);
            text.size = 0;
            next = 0;
            boolean stands = part(KEY_CAME, PART_CAME) && part(KEY_ADDS, PART_ADDS) && part(KEY_MINDS, PART_MINDS);
            if (stands && token() == END) {
                return NONE;
            }
            return next < count ? places[next] : size;
        }

        private void split(int[] tape, int size) {
            count = 0;
            for (int i = 0; i < size; i++) {
                if (isBlank(tape[i])) {
                    continue;
                }
                if (i > 0 && count > 0 && isOfOne(tape[i - 1], tape[i])) {
                    ends[count - 1] = i + 1;
                } else {
                    add(i, i + 1);
                }
            }
            for (int t = 0; t < count; t++) {
                tokens[t] = tokenOf(tape, places[t], ends[t]);
            }
            add(size, size);
            tokens[count - 1] = END;
        }

        private void add(int place, int end) {
            if (count < places.length) {
                places[count] = place;
                ends[count] = end;
                count++;
            }
        }

        private static boolean isBlank(int letter) {
            return letter == 32 || letter == 10;
        }

        private static boolean isSmall(int letter) {
            return letter >= 'a' && letter <= 'z';
        }

        private static boolean isDigit(int letter) {
            return letter >= '0' && letter <= '9';
        }

        private static boolean isOfOne(int before, int letter) {
            return isSmall(before) && isSmall(letter) || isDigit(before) && isDigit(letter);
        }

        private static int tokenOf(int[] tape, int place, int end) {
            int letter = tape[place];
            if (isSmall(letter)) {
                return wordAt(tape, place, end);
            }
            if (isDigit(letter)) {
                return numberAt(tape, place, end);
            }
            switch (letter) {
                case '(':
                case ')':
                case ';':
                case '+':
                case '-':
                case '*':
                case '<':
                case '=':
                    return letter;
                default:
                    return NO_TOKEN;
            }
        }

        private static int numberAt(int[] tape, int place, int end) {
            if (end - place > LONGEST_NUMBER) {
                return NO_TOKEN;
            }
            int number = 0;
            for (int i = place; i < end; i++) {
                number = 10 * number + tape[i] - '0';
            }
            return DIGITS + number;
        }

        private static int wordAt(int[] tape, int place, int end) {
            for (int w = 0; w < WORDS; w++) {
                if (stands(word(w), tape, place, end)) {
                    return w;
                }
            }
            return NO_TOKEN;
        }

        private static boolean stands(String word, int[] tape, int place, int end) {
            if (word.length() != end - place) {
                return false;
            }
            for (int i = 0; i < word.length(); i++) {
                if (word.charAt(i) != tape[place + i]) {
                    return false;
                }
            }
            return true;
        }

        private static String word(int w) {
            switch (w) {
                case 0:
                    return "clock";
                case 1:
                    return "who";
                case 2:
                    return "room";
                case 3:
                    return "off";
                case 4:
                    return "done";
                case 5:
                    return "rooms";
                case KEY_CAME:
                    return "came";
                case KEY_ADDS:
                    return "adds";
                case KEY_MINDS:
                    return "minds";
                case OR:
                    return "or";
                case AND:
                    return "and";
                default:
                    return "not";
            }
        }

        private int token() {
            return next < count ? tokens[next] : END;
        }

        private boolean accept(int token) {
            if (token() != token) {
                return false;
            }
            next++;
            return true;
        }

        private boolean part(int key, int part) {
            if (!accept(key) || !any(0) || !accept(';')) {
                return false;
            }
            text.close(part);
            return true;
        }

        // E; open: how many ( and not and - are open around it
        private boolean any(int open) {
            if (!every(open)) {
                return false;
            }
            for (int i = 0; i < count && accept(OR); i++) {
                if (!every(open)) {
                    return false;
                }
                text.emit(OR);
            }
            return true;
        }

        // AND
        private boolean every(int open) {
            if (!denial(open)) {
                return false;
            }
            for (int i = 0; i < count && accept(AND); i++) {
                if (!denial(open)) {
                    return false;
                }
                text.emit(AND);
            }
            return true;
        }

        // NOT
        private boolean denial(int open) {
            if (token() != NOT) {
                return comparison(open);
            }
            if (open >= DEEPEST) {
                return false;
            }
            next++;
            if (!denial(open + 1)) {
                return false;
            }
            text.emit(NOT);
            return true;
        }

        private boolean comparison(int open) {
            if (!sum(open)) {
                return false;
            }
            int sign = token();
            if (!accept('<') && !accept('=')) {
                return true;
            }
            if (!sum(open)) {
                return false;
            }
            text.emit(sign);
            return true;
        }

        // SUM
        private boolean sum(int open) {
            if (!term(open)) {
                return false;
            }
            int sign = token();
            for (int i = 0; i < count && (accept('+') || accept('-')); i++) {
                if (!term(open)) {
                    return false;
                }
                text.emit(sign);
                sign = token();
            }
            return true;
        }

        // TERM
        private boolean term(int open) {
            if (!one(open)) {
                return false;
            }
            for (int i = 0; i < count && accept('*'); i++) {
                if (!one(open)) {
                    return false;
                }
                text.emit('*');
            }
            return true;
        }

        // ONE
        private boolean one(int open) {
            int token = token();
            if (token >= DIGITS || token >= 0 && token < NAMES) {
                next++;
                text.emit(token);
                return true;
            }
            if (open >= DEEPEST) {
                return false;
            }
            if (accept('(')) {
                return any(open + 1) && accept(')');
            }
            if (!accept('-') || !one(open + 1)) {
                return false;
            }
            text.emit(NEGATED);
            return true;
        }
    }

    // all WORLDS as they come out by THE RULE
    private static final class Worlds {
        final int[][] at = new int[MOST_WORLDS][MOST_CLOCKS];
        final int[][] done = new int[MOST_WORLDS][MOST_CLOCKS];
        final int[] right = new int[MOST_WORLDS];
        final boolean[] fits = new boolean[MOST_WORLDS];
        final int[] times = new int[MOST_WORLDS];
        final long[] chances = new long[MOST_WORLDS];
        final int[] came = new int[MOST_DOERS];
        final int[] names = new int[NAMES];
        final House house = new House();
        Text rule = new Text();
        int count = 0;
        long all = 0;
        // something was changed since they were worked out
        boolean stale = true;

        void work(Text by) {
            rule = by;
            count = 1 << house.doerCount;
            all = 0;
            for (int d = 0; d < house.doerCount; d++) {
                came[d] = howLikely(d);
            }
            for (int w = 0; w < count; w++) {
                play(w);
                right[w] = rightIn(w);
                chances[w] = chanceOf(w);
                int time = timeIn(w);
                fits[w] = time != BAD;
                times[w] = fits[w] ? time : NONE;
                if (fits[w]) {
                    all += chances[w];
                }
            }
            stale = false;
        }

        private void name(int clock, int who, int room, int off, int done, int rooms) {
            names[0] = clock;
            names[1] = who;
            names[2] = room;
            names[3] = off;
            names[4] = done;
            names[5] = rooms;
        }

        private int howLikely(int d) {
            name(0, d, 0, 0, 0, house.doers[d].rooms());
            return bounded(rule.tells(PART_CAME, names), 0, 100);
        }

        private long chanceOf(int world) {
            long chance = 1;
            for (int d = 0; d < house.doerCount; d++) {
                chance *= (world >> d & 1) == 1 ? came[d] : 100 - came[d];
            }
            return chance;
        }

        private void play(int world) {
            begin(world);
            int ahead = 0;
            for (int d = 0; d < house.doerCount; d++) {
                if ((world >> d & 1) == 0) {
                    continue;
                }
                for (int room = 0; room < MOST_ROOMS; room++) {
                    for (int c = 0; c < house.clockCount && house.doers[d].goesTo(room); c++) {
                        if (house.clocks[c].room == room && house.clocks[c].self == 0) {
                            visit(world, d, ahead, c);
                        }
                    }
                }
                ahead++;
            }
        }

        private void begin(int world) {
            for (int c = 0; c < house.clockCount; c++) {
                Clock clock = house.clocks[c];
                at[world][c] = clock.off + (clock.self == 1 ? HOUR : 0);
                done[world][c] = clock.self;
            }
        }

        private void visit(int world, int d, int ahead, int c) {
            if (house.clockCount <= 0) {
                return;
            }
            Doer doer = house.doers[d];
            Clock clock = house.clocks[c];
            int trusted = doer.number % house.clockCount;
            int behind = at[world][trusted] - at[world][c];
            if (!doer.does(c, done[world][c], behind, ahead)) {
                return;
            }
            name(c, d, clock.room, clock.off, done[world][c], doer.rooms());
            int v = bounded(rule.tells(PART_ADDS, names), -FARTHEST, FARTHEST);
            at[world][c] += doer.adds(v, behind);
            done[world][c]++;
        }

        private int rightIn(int world) {
            int bits = 0;
            for (int c = 0; c < house.clockCount; c++) {
                if (at[world][c] == HOUR) {
                    bits |= 1 << c;
                }
            }
            return bits;
        }

        // NONE: nothing was seen; BAD: it doesn't fit
        private int timeIn(int world) {
            int time = NONE;
            for (int c = 0; c < house.clockCount; c++) {
                int saw = house.clocks[c].saw;
                if (saw == NONE) {
                    continue;
                }
                int here = Math.floorMod(saw - at[world][c] + HOUR, DAY);
                if (time != NONE && time != here) {
                    return BAD;
                }
                time = here;
            }
            return time;
        }

        int minds(int world, int c) {
            Clock clock = house.clocks[c];
            name(c, 0, clock.room, clock.off, done[world][c], 0);
            return bounded(rule.tells(PART_MINDS, names), 0, 99);
        }

        // what a CLOCK would say in a WORLD that has a TIME
        int says(int world, int c) {
            return Math.floorMod(times[world] - HOUR + at[world][c], DAY);
        }

        // the WORLD that is DRAWN by a SEED
        int draw(int seed) {
            int z = seed;
            int world = 0;
            for (int d = 0; d < house.doerCount; d++) {
                z = z * 1103515245 + 12345;
                if ((z >>> 9) % 100 < came[d]) {
                    world |= 1 << d;
                }
            }
            return world;
        }
    }

    // CHANCES, together by what they are of
    private static final class Sums {
        final int[] keys = new int[MOST_WORLDS];
        final long[] sums = new long[MOST_WORLDS];
        int count = 0;

        void add(int key, long chance) {
            int k = 0;
            while (k < count && keys[k] != key) {
                k++;
            }
            if (k >= keys.length) {
                return;
            }
            if (k == count) {
                keys[k] = key;
                sums[k] = 0;
                count++;
            }
            sums[k] += chance;
        }

        long greatest() {
            long greatest = 0;
            for (int k = 0; k < count; k++) {
                greatest = Math.max(greatest, sums[k]);
            }
            return greatest;
        }

        // of those that are the greatest the least; NONE: there is none
        int keyOfGreatest() {
            long greatest = greatest();
            int key = NONE;
            for (int k = 0; k < count; k++) {
                if (sums[k] == greatest && (key == NONE || keys[k] < key)) {
                    key = keys[k];
                }
            }
            return key;
        }

        int aboveNothing() {
            int above = 0;
            for (int k = 0; k < count; k++) {
                if (sums[k] > 0) {
                    above++;
                }
            }
            return above;
        }
    }

    // what follows from all WORLDS
    private static final class Known {
        final Sums sums = new Sums();
        // sets of CLOCKS that two WORLDS could show alike
        final boolean[] blind = new boolean[1 << MOST_CLOCKS];

        long chanceRight(Worlds worlds, int clock) {
            long chance = 0;
            for (int w = 0; w < worlds.count; w++) {
                if (worlds.fits[w] && (worlds.right[w] >> clock & 1) == 1) {
                    chance += worlds.chances[w];
                }
            }
            return chance;
        }

        private void sumTimes(Worlds worlds) {
            sums.count = 0;
            for (int w = 0; w < worlds.count; w++) {
                if (worlds.times[w] != NONE) {
                    sums.add(worlds.times[w], worlds.chances[w]);
                }
            }
        }

        int likeliestTime(Worlds worlds) {
            if (worlds.all == 0) {
                return NONE;
            }
            sumTimes(worlds);
            return sums.keyOfGreatest();
        }

        int unlikeTimes(Worlds worlds) {
            sumTimes(worlds);
            return sums.aboveNothing();
        }

        long chanceOfTime(Worlds worlds) {
            sumTimes(worlds);
            return sums.greatest();
        }

        int nextToSee(Worlds worlds) {
            if (worlds.house.seen() == 0) {
                return NONE;
            }
            int next = NONE;
            long least = 0;
            for (int c = 0; c < worlds.house.clockCount; c++) {
                if (worlds.house.clocks[c].saw != NONE) {
                    continue;
                }
                long greatest = chanceOfSaying(worlds, c);
                if (next == NONE || greatest < least) {
                    next = c;
                    least = greatest;
                }
            }
            return next;
        }

        private long chanceOfSaying(Worlds worlds, int c) {
            sums.count = 0;
            for (int w = 0; w < worlds.count; w++) {
                if (worlds.fits[w]) {
                    sums.add(worlds.says(w, c), worlds.chances[w]);
                }
            }
            return sums.greatest();
        }

        int fewestThatTell(Worlds worlds) {
            for (int set = 0; set < blind.length; set++) {
                blind[set] = false;
            }
            for (int w = 0; w < worlds.count; w++) {
                for (int v = 0; v < worlds.count; v++) {
                    if (worlds.chances[w] > 0 && worlds.chances[v] > 0) {
                        blindBy(worlds, w, v);
                    }
                }
            }
            int fewest = NONE;
            for (int set = 1; set < 1 << worlds.house.clockCount; set++) {
                if (!blind[set] && (fewest == NONE || Integer.bitCount(set) < Integer.bitCount(fewest))) {
                    fewest = set;
                }
            }
            return fewest;
        }

        private void blindBy(Worlds worlds, int w, int v) {
            for (int c = 0; c < worlds.house.clockCount; c++) {
                int more = worlds.at[w][c] - worlds.at[v][c];
                if (more <= 0) {
                    continue;
                }
                int alike = 0;
                for (int e = 0; e < worlds.house.clockCount; e++) {
                    if (worlds.at[w][e] - worlds.at[v][e] == more) {
                        alike |= 1 << e;
                    }
                }
                blindAllOf(alike);
            }
        }

        private void blindAllOf(int alike) {
            // a set that is blind has been here with all that are in it
            if (blind[alike]) {
                return;
            }
            for (int set = 1; set <= alike; set++) {
                if ((set & alike) == set) {
                    blind[set] = true;
                }
            }
        }

        int whomToAsk(Worlds worlds) {
            int whom = NONE;
            long least = 0;
            for (int d = 0; d < worlds.house.doerCount; d++) {
                long came = 0;
                for (int w = 0; w < worlds.count; w++) {
                    if (worlds.fits[w] && (w >> d & 1) == 1) {
                        came += worlds.chances[w];
                    }
                }
                long greater = Math.max(came, worlds.all - came);
                if (whom == NONE || greater < least) {
                    whom = d;
                    least = greater;
                }
            }
            return whom;
        }

        int worldOfMostRight(Worlds worlds) {
            int best = 0;
            for (int w = 1; w < worlds.count; w++) {
                int more = Integer.bitCount(worlds.right[w]) - Integer.bitCount(worlds.right[best]);
                if (more > 0 || more == 0 && Integer.bitCount(w) < Integer.bitCount(best)) {
                    best = w;
                }
            }
            return best;
        }

        long badness(Worlds worlds) {
            long badness = 0;
            for (int w = 0; w < worlds.count; w++) {
                if (worlds.fits[w] && worlds.chances[w] > 0) {
                    badness += worlds.chances[w] * wrongIn(worlds, w);
                }
            }
            return badness;
        }

        private int wrongIn(Worlds worlds, int w) {
            int wrong = 0;
            for (int c = 0; c < worlds.house.clockCount; c++) {
                if ((worlds.right[w] >> c & 1) == 0) {
                    wrong += worlds.minds(w, c);
                }
            }
            return wrong;
        }

        int latest(Worlds worlds, int clock) {
            int latest = NONE;
            for (int w = 0; w < worlds.count; w++) {
                if (worlds.fits[w] && worlds.chances[w] > 0) {
                    latest = Math.max(latest, Math.abs(worlds.at[w][clock] - HOUR));
                }
            }
            return latest;
        }

        private boolean isAsTold(Worlds worlds, int w, Sheet telling) {
            if (worlds.chances[w] <= 0) {
                return false;
            }
            for (int c = 0; c < worlds.house.clockCount && c < telling.size; c++) {
                int told = telling.cells[c];
                if ((told == 0 || told == 1) && told != (worlds.right[w] >> c & 1)) {
                    return false;
                }
            }
            return true;
        }

        int howManyAsTold(Worlds worlds, Sheet telling) {
            int many = 0;
            for (int w = 0; w < worlds.count; w++) {
                if (isAsTold(worlds, w, telling)) {
                    many++;
                }
            }
            return many;
        }

        int likeliestAsTold(Worlds worlds, Sheet telling) {
            int likeliest = NONE;
            long most = 0;
            for (int w = 0; w < worlds.count; w++) {
                if (worlds.chances[w] > most && isAsTold(worlds, w, telling)) {
                    likeliest = w;
                    most = worlds.chances[w];
                }
            }
            return likeliest;
        }

        int whoCameAsTold(Worlds worlds, Sheet telling) {
            int who = worlds.count - 1;
            boolean some = false;
            for (int w = 0; w < worlds.count; w++) {
                if (isAsTold(worlds, w, telling)) {
                    who &= w;
                    some = true;
                }
            }
            return some ? who : 0;
        }
    }

    private static final class Sheet {
        final int[] cells = new int[MOST_CELLS];
        int sort = MISSING;
        int size = 0;

        void become(int ofSort, int n) {
            sort = ofSort;
            size = bounded(n, 0, cells.length);
            for (int i = 0; i < cells.length; i++) {
                cells[i] = 0;
            }
        }

        boolean holds(int i, int n) {
            return i >= 0 && n >= 0 && n <= size - i;
        }

        void put(int i, int v) {
            if (!holds(i, 1)) {
                return;
            }
            switch (sort) {
                case BYTES:
                    cells[i] = (byte) v;
                    break;
                case SHORTS:
                    cells[i] = (short) v;
                    break;
                default:
                    cells[i] = v;
                    break;
            }
        }
    }
}
