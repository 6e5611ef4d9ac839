import java.util.Arrays;

/** Steam on the third bench: a hut, its law, its bathers, and what is asked of them. */
public final class SteamOnBench {
    public static final int NONE = -1, BAD = -2, STATE = -3, FULL = -4;
    public static final long NO = -4611686018427387904L;

    private static final int NO_BATHER = -5, NOT_AS_TOLD = -7;
    private static final int NOTHING_THERE = -11, OUTSIDE = -12, OTHER_SORT = -13, BELOW_ZERO = -14;

    private static final int MOST_BATHERS = 6, MOST_TEXTS = 6, MOST_BYTES = 160;
    private static final int SHEETS = 4, MOST_NUMBERS = 40, MOST_TOLD = 20;
    private static final int MOST_MINUTES = 40, NEVER = 41;
    private static final int LAST_MINUTE = 999, MOST_STONES = 999, MOST_STEAM = 99, MOST_WOOD = 99;
    private static final int MOST_WARM = 999, MOST_JOY = 999;

    private static final int HIGHEST_BENCH = 2, OUT = 3;
    private static final int PROUD = 1, CHILD = 2, FAINTER = 3, TALKER = 4, STOKER = 5, KINDS = 6;
    private static final int WARM_ITSELF = 6;
    private static final int MISSING = -1, BYTES = 0, SHORTS = 1, INTS = 2;

    private static final int FEELS_PART = 0, BEARS_PART = 1, GLAD_PART = 2;

    // Tokens, and the steps of a text's code: one below 10000 is that number itself.
    private static final int NAME_STONES = 10000, NAME_STEAM = 10001, NAME_BENCH = 10002;
    private static final int NAME_MINUTE = 10003, NAME_WARM = 10004, NAME_MORE = 10005;
    private static final int OR = 10010, AND = 10011, NOT = 10012, NEGATIVE = 10013;
    private static final int LESS = 10014, EQUAL = 10015, PLUS = 10016, MINUS = 10017, TIMES = 10018;
    private static final int OPEN = 10020, CLOSE = 10021, SEMICOLON = 10022;
    private static final int FEELS = 10030, BEARS = 10031, GLAD = 10032;
    private static final int END = 10040, WRONG = 10041;

    private static final int MOST_OPEN = 5, MOST_DIGITS = 4;
    // Six levels, and on each at most five values that wait for their right side.
    private static final int STACK = 40;
    private static final String FIRST_TEXT = "feels 1 + bench + steam ; bears 60 ; glad steam - 2 ;";

    private final Tape tape;
    private final Text[] texts;
    private int textCount;
    private final Hut now;
    private final Hut thought;
    private final Hut kept;
    private boolean hasImage;
    private final Sheet[] sheets;

    /** One bather. */
    private static final class Bather {
        int kind, more, bench, warm, joy;

        void becomeAs(Bather other) {
            kind = other.kind;
            more = other.more;
            bench = other.bench;
            warm = other.warm;
            joy = other.joy;
        }
    }

    /** A row of numbers, or a missing one. */
    private static final class Sheet {
        int sort = MISSING;
        int size;
        final int[] numbers = new int[MOST_NUMBERS];

        /** The size is 0 .. 40. */
        void becomeRow(int newSort, int newSize) {
            sort = newSort;
            size = newSize;
            Arrays.fill(numbers, 0);
        }

        boolean isMissing() {
            return sort == MISSING;
        }

        boolean hasPlace(int i) {
            return i >= 0 && i < size && i < numbers.length;
        }

        boolean hasPlaces(int from, int n) {
            return n >= 0 && from >= 0 && n <= size && from <= size - n;
        }

        void write(int i, int v) {
            if (!hasPlace(i)) {
                return;
            }
            if (sort == BYTES) {
                numbers[i] = (byte) v;
            } else if (sort == SHORTS) {
                numbers[i] = (short) v;
            } else {
                numbers[i] = v;
            }
        }
    }

    /** The hut with its bathers: as it is, as it is thought, or as an image keeps it. */
    private static final class Hut {
        int minute;
        int stones = 200;
        int steam;
        int wood = 5;
        int many;
        Text law;
        final Bather[] bathers = new Bather[MOST_BATHERS];

        Hut(Text first) {
            law = first;
            for (int b = 0; b < bathers.length; b++) {
                bathers[b] = new Bather();
            }
        }

        void becomeAs(Hut other) {
            minute = other.minute;
            stones = other.stones;
            steam = other.steam;
            wood = other.wood;
            many = other.many;
            law = other.law;
            for (int b = 0; b < many; b++) {
                bathers[b].becomeAs(other.bathers[b]);
            }
        }

        boolean has(int b) {
            return b >= 0 && b < many;
        }

        int bathersIn() {
            int in = 0;
            for (int b = 0; b < many; b++) {
                if (bathers[b].bench != OUT) {
                    in++;
                }
            }
            return in;
        }

        int bitsIn() {
            int bits = 0;
            for (int b = 0; b < many; b++) {
                if (bathers[b].bench != OUT) {
                    bits |= 1 << b;
                }
            }
            return bits;
        }

        int joyOfAll() {
            int joy = 0;
            for (int b = 0; b < many; b++) {
                joy += bathers[b].joy;
            }
            return joy;
        }

        int feelsOf(Bather one) {
            if (one.kind == STOKER) {
                return one.more;
            }
            int said = law.says(FEELS_PART, this, one);
            if (one.kind == FAINTER) {
                return steam > 9 ? 2 * said : said;
            }
            if (one.kind != CHILD && one.kind != TALKER) {
                return said;
            }
            int felt = one.bench == 0 ? said / 2 : said;
            return one.kind == TALKER ? felt - one.more : felt;
        }

        int bearsOf(Bather one) {
            int said = law.says(BEARS_PART, this, one);
            switch (one.kind) {
                case PROUD:
                case FAINTER:
                    return said + 10 * one.more;
                case CHILD:
                case TALKER:
                    return said / 2;
                default:
                    return said;
            }
        }

        int gladOf(Bather one) {
            if (one.kind == STOKER && stones > 300) {
                return 99;
            }
            int said = law.says(GLAD_PART, this, one);
            if (one.kind == TALKER) {
                return said + bathersIn();
            }
            if (one.kind != PROUD && one.kind != FAINTER) {
                return said;
            }
            int gladness = one.bench == HIGHEST_BENCH ? said + one.more : said;
            return one.kind == FAINTER ? gladness / 2 : gladness;
        }

        /** Who goes OUT in it, as bits. */
        int passMinute() {
            int gone = 0;
            for (int b = 0; b < many; b++) {
                Bather one = bathers[b];
                if (one.bench == OUT) {
                    one.warm = Math.max(0, one.warm - 5);
                } else if (sweatsOut(one)) {
                    gone |= 1 << b;
                }
            }
            loseSteam();
            stones = Math.max(0, stones - 2);
            minute++;
            return gone;
        }

        /** The minute of one who is IN: whether one goes OUT. */
        private boolean sweatsOut(Bather one) {
            int felt = feelsOf(one);
            int gladness = gladOf(one);
            one.warm = bounded(one.warm + felt, 0, MOST_WARM);
            one.joy = bounded(one.joy + gladness, 0, MOST_JOY);
            if (one.warm <= bearsOf(one)) {
                return false;
            }
            one.bench = OUT;
            loseSteam();
            return true;
        }

        void loseSteam() {
            steam = Math.max(0, steam - 1);
        }

        /** Whether the ladles were poured. */
        boolean pourLadles(int ladles) {
            if (stones < 20 * ladles) {
                return false;
            }
            stones -= 10 * ladles;
            steam = Math.min(MOST_STEAM, steam + 3 * ladles);
            return true;
        }

        void burnLog() {
            wood--;
            stones = Math.min(MOST_STONES, stones + 50);
        }

        /** The number of the new bather, or a refusal. */
        int letIn(int kindMore, int warmBench) {
            if (kindMore < 0 || kindMore >= 10 * KINDS) {
                return BAD;
            }
            if (warmBench < 0 || warmBench / 10 > MOST_WARM || warmBench % 10 > OUT) {
                return BAD;
            }
            if (many >= bathers.length) {
                return FULL;
            }
            Bather one = bathers[many];
            one.kind = kindMore / 10;
            one.more = kindMore % 10;
            one.warm = warmBench / 10;
            one.bench = warmBench % 10;
            one.joy = 0;
            many++;
            return many - 1;
        }
    }

    /** A text that was read: the three sums as steps for a stack. */
    private static final class Text {
        final int number;
        private final int[] code;
        private final int bearsFrom;
        private final int gladFrom;
        private final int[] stack = new int[STACK];

        Text(int number, int[] code, int bearsFrom, int gladFrom) {
            this.number = number;
            this.code = code;
            this.bearsFrom = bearsFrom;
            this.gladFrom = gladFrom;
        }

        int says(int part, Hut hut, Bather one) {
            int from = part == FEELS_PART ? 0 : part == BEARS_PART ? bearsFrom : gladFrom;
            int to = part == FEELS_PART ? bearsFrom : part == BEARS_PART ? gladFrom : code.length;
            int top = 0;
            for (int i = from; i < to && i < code.length; i++) {
                int step = code[i];
                if (step >= OR) {
                    top = work(step, top);
                } else if (top < stack.length) {
                    stack[top] = step < NAME_STONES ? step : named(step, hut, one);
                    top++;
                }
            }
            int said = top > 0 ? stack[0] : 0;
            return part == BEARS_PART ? bounded(said, 0, 999) : bounded(said, -99, 99);
        }

        private static int named(int name, Hut hut, Bather one) {
            switch (name) {
                case NAME_STONES:
                    return hut.stones;
                case NAME_STEAM:
                    return hut.steam;
                case NAME_BENCH:
                    return one.bench == OUT ? 0 : one.bench;
                case NAME_MINUTE:
                    return hut.minute;
                case NAME_WARM:
                    return one.warm;
                default:
                    return one.more;
            }
        }

        /** Works on the values on top of the stack: how many it holds then. */
        private int work(int step, int top) {
            int left = top - 2;
            int right = top - 1;
            if (right < 0 || right >= stack.length) {
                return top;
            }
            int v = stack[right];
            if (step == NOT || step == NEGATIVE) {
                stack[right] = step == NEGATIVE ? -v : v == 0 ? 1 : 0;
                return top;
            }
            if (left < 0) {
                return top;
            }
            int u = stack[left];
            switch (step) {
                case OR:
                    stack[left] = u != 0 || v != 0 ? 1 : 0;
                    break;
                case AND:
                    stack[left] = u != 0 && v != 0 ? 1 : 0;
                    break;
                case LESS:
                    stack[left] = u < v ? 1 : 0;
                    break;
                case EQUAL:
                    stack[left] = u == v ? 1 : 0;
                    break;
                case PLUS:
                    stack[left] = u + v;
                    break;
                case MINUS:
                    stack[left] = u - v;
                    break;
                default:
                    stack[left] = u * v;
                    break;
            }
            return right;
        }
    }

    /** The tape, and the reading of a text from it. */
    private static final class Tape {
        final int[] bytes = new int[MOST_BYTES];
        int size;
        private final int[] tokens = new int[MOST_BYTES];
        private final int[] places = new int[MOST_BYTES];
        private int tokenCount;
        private int next;
        private final int[] code = new int[MOST_BYTES];
        private int steps;
        private int bearsFrom;
        private int gladFrom;

        boolean hasRoom(int n) {
            return size + n <= bytes.length;
        }

        /** A byte comes behind the others, if it has room. */
        void add(int b) {
            if (hasRoom(1)) {
                bytes[size] = b;
                size++;
            }
        }

        void addAll(String text) {
            for (int i = 0; i < text.length(); i++) {
                add(text.charAt(i));
            }
        }

        /** Reads the tape as a text: the place of its fault, or -1. */
        int faultPlace() {
            scan();
            next = 0;
            steps = 0;
            if (readText()) {
                return -1;
            }
            return next < tokenCount ? places[next] : size;
        }

        /** The text that was read without a fault. */
        Text textRead(int number) {
            return new Text(number, Arrays.copyOf(code, steps), bearsFrom, gladFrom);
        }

        // ---- what stands on the tape, token by token

        private void scan() {
            tokenCount = 0;
            for (int at = 0; at < size; at++) {
                if (beginsToken(at) && tokenCount < tokens.length) {
                    tokens[tokenCount] = tokenAt(at);
                    places[tokenCount] = at;
                    tokenCount++;
                }
            }
        }

        private boolean beginsToken(int at) {
            int b = byteAt(at);
            if (isLetter(b)) {
                return !isLetter(byteAt(at - 1));
            }
            if (isDigit(b)) {
                return !isDigit(byteAt(at - 1));
            }
            return b != 32 && b != 10;
        }

        private int tokenAt(int at) {
            int b = byteAt(at);
            return isLetter(b) ? wordAt(at) : isDigit(b) ? numberAt(at) : signOf(b);
        }

        private int numberAt(int from) {
            int number = 0;
            int to = from;
            while (to < size && isDigit(byteAt(to))) {
                number = number * 10 + byteAt(to) - '0';
                to++;
            }
            return to - from > MOST_DIGITS ? WRONG : number;
        }

        private int wordAt(int from) {
            int to = from;
            while (to < size && isLetter(byteAt(to))) {
                to++;
            }
            return isWord("feels", from, to) ? FEELS
                : isWord("bears", from, to) ? BEARS
                : isWord("glad", from, to) ? GLAD
                : isWord("or", from, to) ? OR
                : isWord("and", from, to) ? AND
                : isWord("not", from, to) ? NOT
                : isWord("stones", from, to) ? NAME_STONES
                : isWord("steam", from, to) ? NAME_STEAM
                : isWord("bench", from, to) ? NAME_BENCH
                : isWord("minute", from, to) ? NAME_MINUTE
                : isWord("warm", from, to) ? NAME_WARM
                : isWord("more", from, to) ? NAME_MORE
                : WRONG;
        }

        private boolean isWord(String word, int from, int to) {
            if (word.length() != to - from) {
                return false;
            }
            for (int i = 0; i < word.length(); i++) {
                if (byteAt(from + i) != word.charAt(i)) {
                    return false;
                }
            }
            return true;
        }

        private static int signOf(int b) {
            switch (b) {
                case '(':
                    return OPEN;
                case ')':
                    return CLOSE;
                case ';':
                    return SEMICOLON;
                case '+':
                    return PLUS;
                case '-':
                    return MINUS;
                case '*':
                    return TIMES;
                case '<':
                    return LESS;
                case '=':
                    return EQUAL;
                default:
                    return WRONG;
            }
        }

        private int byteAt(int place) {
            return place >= 0 && place < size && place < bytes.length ? bytes[place] : -1;
        }

        private static boolean isLetter(int b) {
            return b >= 'a' && b <= 'z';
        }

        private static boolean isDigit(int b) {
            return b >= '0' && b <= '9';
        }

        // ---- what the tokens make; each answers false if the next token can't stand there

        private boolean readText() {
            if (!readPart(FEELS)) {
                return false;
            }
            bearsFrom = steps;
            if (!readPart(BEARS)) {
                return false;
            }
            gladFrom = steps;
            return readPart(GLAD) && token() == END;
        }

        private boolean readPart(int key) {
            return goBehind(key) && readOr(0) && goBehind(SEMICOLON);
        }

        private boolean readOr(int open) {
            boolean stands = readAnd(open);
            for (int i = 0; i < MOST_BYTES && stands && goBehind(OR); i++) {
                stands = readAnd(open) && addStep(OR);
            }
            return stands;
        }

        private boolean readAnd(int open) {
            boolean stands = readNot(open);
            for (int i = 0; i < MOST_BYTES && stands && goBehind(AND); i++) {
                stands = readNot(open) && addStep(AND);
            }
            return stands;
        }

        private boolean readNot(int open) {
            if (token() == NOT) {
                return open < MOST_OPEN && goBehind(NOT) && readNot(open + 1) && addStep(NOT);
            }
            if (!readSum(open)) {
                return false;
            }
            int sign = token();
            if (sign != LESS && sign != EQUAL) {
                return true;
            }
            return goBehind(sign) && readSum(open) && addStep(sign);
        }

        private boolean readSum(int open) {
            boolean stands = readTerm(open);
            int sign = token();
            for (int i = 0; i < MOST_BYTES && stands && (sign == PLUS || sign == MINUS); i++) {
                stands = goBehind(sign) && readTerm(open) && addStep(sign);
                sign = token();
            }
            return stands;
        }

        private boolean readTerm(int open) {
            boolean stands = readOne(open);
            for (int i = 0; i < MOST_BYTES && stands && goBehind(TIMES); i++) {
                stands = readOne(open) && addStep(TIMES);
            }
            return stands;
        }

        private boolean readOne(int open) {
            int first = token();
            if (first == MINUS) {
                return open < MOST_OPEN && goBehind(MINUS) && readOne(open + 1) && addStep(NEGATIVE);
            }
            if (first == OPEN) {
                return open < MOST_OPEN && goBehind(OPEN) && readOr(open + 1) && goBehind(CLOSE);
            }
            return first <= NAME_MORE && goBehind(first) && addStep(first);
        }

        private int token() {
            return next < tokenCount && next < tokens.length ? tokens[next] : END;
        }

        /** Whether the next token was this one; if so, it is behind. */
        private boolean goBehind(int wanted) {
            if (token() != wanted) {
                return false;
            }
            next++;
            return true;
        }

        private boolean addStep(int step) {
            if (steps < code.length) {
                code[steps] = step;
                steps++;
            }
            return true;
        }
    }

    public SteamOnBench() {
        tape = new Tape();
        tape.addAll(FIRST_TEXT);
        tape.faultPlace();
        Text first = tape.textRead(0);
        tape.size = 0;
        texts = new Text[MOST_TEXTS];
        texts[0] = first;
        textCount = 1;
        now = new Hut(first);
        thought = new Hut(first);
        kept = new Hut(first);
        sheets = new Sheet[SHEETS];
        for (int s = 0; s < sheets.length; s++) {
            sheets[s] = new Sheet();
        }
    }

    // ---- the hut, the law, bathers

    public int count(int what) {
        switch (what) {
            case 0:
                return now.many;
            case 1:
                return now.bathersIn();
            case 2:
                return now.joyOfAll();
            case 3:
                return textCount;
            case 4:
                return now.law.number;
            case 5:
                return tape.size;
            default:
                return BAD;
        }
    }

    public int fire(int what, int v) {
        int was = hut(what);
        if (was == BAD || v < 0 || v > mostOf(what)) {
            return BAD;
        }
        switch (what) {
            case 0:
                now.minute = v;
                break;
            case 1:
                now.stones = v;
                break;
            case 2:
                now.steam = v;
                break;
            default:
                now.wood = v;
                break;
        }
        return was;
    }

    public int hut(int what) {
        switch (what) {
            case 0:
                return now.minute;
            case 1:
                return now.stones;
            case 2:
                return now.steam;
            case 3:
                return now.wood;
            default:
                return BAD;
        }
    }

    public int feed(int n, int a, int b, int c, int d, int e) {
        if (n < 1 || n > 5 || !isByte(a) || !isByte(b) || !isByte(c) || !isByte(d) || !isByte(e)) {
            return BAD;
        }
        if (!tape.hasRoom(n)) {
            return FULL;
        }
        for (int i = 0; i < n; i++) {
            tape.add(i == 0 ? a : i == 1 ? b : i == 2 ? c : i == 3 ? d : e);
        }
        return tape.size;
    }

    public int text() {
        if (textCount >= texts.length) {
            return FULL;
        }
        int fault = tape.faultPlace();
        tape.size = 0;
        if (fault >= 0) {
            return -100 - fault;
        }
        texts[textCount] = tape.textRead(textCount);
        textCount++;
        return textCount - 1;
    }

    public int force(int t) {
        if (t < 0 || t >= textCount || t >= texts.length) {
            return BAD;
        }
        int was = now.law.number;
        now.law = texts[t];
        return was;
    }

    public int asks(int part, int b) {
        if (!isWithin(part, FEELS_PART, GLAD_PART) || !now.has(b)) {
            return -1000;
        }
        return now.law.says(part, now, now.bathers[b]);
    }

    public int bather(int kindMore, int warmBench) {
        return now.letIn(kindMore, warmBench);
    }

    public int put(int b, int what, int v) {
        if (!now.has(b)) {
            return NO_BATHER;
        }
        int most = what == 0 ? OUT : what == 1 ? MOST_WARM : MOST_JOY;
        if (!isWithin(what, 0, 2) || !isWithin(v, 0, most)) {
            return NOT_AS_TOLD;
        }
        Bather one = now.bathers[b];
        int was = told(b, what);
        if (what == 0) {
            one.bench = v;
        } else if (what == 1) {
            one.warm = v;
        } else {
            one.joy = v;
        }
        return was;
    }

    public int told(int b, int what) {
        if (!now.has(b)) {
            return -5000;
        }
        Bather one = now.bathers[b];
        switch (what) {
            case 0:
                return one.bench;
            case 1:
                return one.warm;
            case 2:
                return one.joy;
            case 3:
                return one.kind;
            case 4:
                return one.more;
            case 5:
                return now.feelsOf(one);
            case 6:
                return now.bearsOf(one);
            case 7:
                return now.gladOf(one);
            default:
                return -7000;
        }
    }

    // ---- pouring, stoking, the door, minutes

    public int pour(int ladles) {
        if (!isWithin(ladles, 1, 3)) {
            return BAD;
        }
        return now.pourLadles(ladles) ? now.steam : STATE;
    }

    public int stoke() {
        if (now.wood == 0) {
            return STATE;
        }
        now.burnLog();
        return now.stones;
    }

    public int door(int b, int to) {
        if (!now.has(b)) {
            return NO_BATHER;
        }
        if (!isWithin(to, 0, OUT)) {
            return NOT_AS_TOLD;
        }
        Bather one = now.bathers[b];
        int was = one.bench;
        if (was == to) {
            return STATE;
        }
        one.bench = to;
        if (was == OUT || to == OUT) {
            now.loseSteam();
        }
        return was;
    }

    public int minute() {
        return now.minute >= LAST_MINUTE ? STATE : now.passMinute();
    }

    public int run(int n, int what) {
        if (!isWithin(n, 0, MOST_MINUTES)) {
            return BAD;
        }
        if (!isWithin(what, 0, 3) && !now.has(what - 10) && !now.has(what - 20)) {
            return BAD;
        }
        think();
        int joy = joyBehind(n);
        switch (what) {
            case 0:
                return thought.bitsIn();
            case 1:
                return joy;
            case 2:
                return thought.stones;
            case 3:
                return thought.steam;
            default:
                return what < 20 ? thought.bathers[what - 10].warm : thought.bathers[what - 20].joy;
        }
    }

    public int leaves(int b) {
        if (!now.has(b)) {
            return NO_BATHER;
        }
        think();
        int minutes = minutesTillOut(b);
        return minutes == NEVER ? NONE : minutes;
    }

    public int together() {
        think();
        for (int m = 0; m < MOST_MINUTES; m++) {
            if (thought.passMinute() != 0) {
                return m;
            }
        }
        return MOST_MINUTES;
    }

    // ---- what is best

    public int when(int n, int what) {
        if (!isWithin(n, 1, 8) || !isWithin(what, 0, 1)) {
            return BAD;
        }
        int most = -1;
        int best = 0;
        for (int bits = 0; bits < 1 << n; bits++) {
            int joy = joyPouring(n, bits);
            if (joy > most) {
                most = joy;
                best = bits;
            }
        }
        return what == 0 ? best : most;
    }

    public int benches(int n, int what) {
        if (!isWithin(n, 1, 10) || !isWithin(what, 0, 1)) {
            return BAD;
        }
        int ways = 1;
        for (int in = now.bathersIn(); in > 0; in--) {
            ways *= 3;
        }
        int most = -1;
        int best = 0;
        for (int way = 0; way < ways; way++) {
            think();
            int digits = seatBy(way);
            int joy = joyBehind(n);
            if (joy > most) {
                most = joy;
                best = digits;
            }
        }
        return what == 0 ? best : most;
    }

    public int swap(int n, int what) {
        if (!isWithin(n, 0, MOST_MINUTES) || !isWithin(what, 0, 1)) {
            return BAD;
        }
        think();
        int most = joyBehind(n);
        int best = NONE;
        for (int b = 0; b < now.many; b++) {
            for (int other = b + 1; other < now.many; other++) {
                think();
                int joy = changeBenches(b, other) ? joyBehind(n) : -1;
                if (joy > most) {
                    most = joy;
                    best = 10 * b + other;
                }
            }
        }
        return what == 0 ? best : most;
    }

    public int logs(int n, int what) {
        if (!isWithin(n, 0, MOST_MINUTES) || !isWithin(what, 0, 1)) {
            return BAD;
        }
        int most = -1;
        int best = 0;
        for (int burnt = 0; burnt <= 9 && burnt <= now.wood; burnt++) {
            think();
            for (int log = 0; log < burnt; log++) {
                thought.burnLog();
            }
            int joy = joyBehind(n);
            if (joy > most) {
                most = joy;
                best = burnt;
            }
        }
        return what == 0 ? best : most;
    }

    public int stays(int b, int what) {
        if (!now.has(b)) {
            return NO_BATHER;
        }
        if (!isWithin(what, 0, 1)) {
            return NOT_AS_TOLD;
        }
        int most = -1;
        int best = 0;
        for (int bench = 0; bench <= HIGHEST_BENCH; bench++) {
            think();
            thought.bathers[b].bench = bench;
            int minutes = minutesTillOut(b);
            if (minutes >= most) {
                most = minutes;
                best = bench;
            }
        }
        return what == 0 ? best : most;
    }

    public long share(int b, int n, int part) {
        if (!now.has(b) || !isWithin(n, 0, MOST_MINUTES) || !isWithin(part, 0, 1)) {
            return NO;
        }
        think();
        int all = joyBehind(n);
        return lowest(thought.bathers[b].joy, all, part);
    }

    // ---- told minutes

    public int judge(int s, int b) {
        int refusal = toldRefusal(s, b);
        if (refusal != 0) {
            return refusal;
        }
        think();
        return firstOtherwise(s, b);
    }

    public int kinds(int s, int b, int sort) {
        int refusal = toldRefusal(s, b);
        if (refusal != 0) {
            return refusal;
        }
        if (!isWithin(sort, 0, 1)) {
            return NOT_AS_TOLD;
        }
        int fitting = 0;
        int end = sort == 0 ? KINDS : 10;
        for (int v = 0; v < end; v++) {
            think();
            if (sort == 0) {
                thought.bathers[b].kind = v;
            } else {
                thought.bathers[b].more = v;
            }
            if (firstOtherwise(s, b) == NONE) {
                fitting |= 1 << v;
            }
        }
        return fitting;
    }

    public int states(int s, int b, int what) {
        int refusal = toldRefusal(s, b);
        if (refusal != 0) {
            return refusal;
        }
        if (!isWithin(what, 0, 2)) {
            return NOT_AS_TOLD;
        }
        Bather one = thought.bathers[b];
        int bits = 0;
        int fitting = 0;
        int least = NONE;
        int end = what == 0 ? OUT + 1 : 300;
        for (int v = 0; v < end; v++) {
            think();
            if (what == 0) {
                one.bench = v;
            } else {
                one.warm = v;
            }
            if (firstOtherwise(s, b) == NONE) {
                bits |= v <= OUT ? 1 << v : 0;
                fitting++;
                least = least == NONE ? v : least;
            }
        }
        return what == 0 ? bits : what == 1 ? fitting : least;
    }

    public int steams(int s, int b, int what) {
        int refusal = toldRefusal(s, b);
        if (refusal != 0) {
            return refusal;
        }
        if (!isWithin(what, 0, 1)) {
            return NOT_AS_TOLD;
        }
        int fitting = 0;
        int least = NONE;
        for (int steam = 0; steam <= MOST_STEAM; steam++) {
            think();
            thought.steam = steam;
            if (firstOtherwise(s, b) == NONE) {
                fitting++;
                least = least == NONE ? steam : least;
            }
        }
        return what == 0 ? fitting : least;
    }

    public int whose(int s) {
        int refusal = sheetRefusal(s);
        if (refusal != 0) {
            return refusal;
        }
        int bits = 0;
        for (int b = 0; b < now.many; b++) {
            think();
            if (firstOtherwise(s, b) == NONE) {
                bits |= 1 << b;
            }
        }
        return bits;
    }

    public int laws(int s, int b) {
        int refusal = toldRefusal(s, b);
        if (refusal != 0) {
            return refusal;
        }
        int bits = 0;
        for (int t = 0; t < textCount; t++) {
            think();
            thought.law = texts[t];
            if (firstOtherwise(s, b) == NONE) {
                bits |= 1 << t;
            }
        }
        return bits;
    }

    public int film(int s, int b, int n) {
        if (!isSheet(s)) {
            return BAD;
        }
        if (!now.has(b)) {
            return NO_BATHER;
        }
        if (!isWithin(n, 0, MOST_TOLD)) {
            return NOT_AS_TOLD;
        }
        Sheet row = sheets[s];
        row.becomeRow(SHORTS, n);
        think();
        for (int i = 0; i < n; i++) {
            thought.passMinute();
            row.write(i, thought.bathers[b].warm);
        }
        return n;
    }

    // ---- pouring by lots

    public int drawn(int seed, int what) {
        if (!isWithin(seed, 0, 99999) || !isWithin(what, 0, 1)) {
            return BAD;
        }
        int joy = joyBySeed(seed);
        return what == 0 ? joy : thought.bitsIn();
    }

    public long odds(int seed, int seeds, int least, int part) {
        if (!isWithin(seed, 0, 99999) || !isWithin(seeds, 1, 40)
            || !isWithin(least, 0, 9999) || !isWithin(part, 0, 1)) {
            return NO;
        }
        int enough = 0;
        for (int i = 0; i < seeds; i++) {
            if (joyBySeed(seed + i) >= least) {
                enough++;
            }
        }
        return lowest(enough, seeds, part);
    }

    public int image() {
        kept.becomeAs(now);
        hasImage = true;
        return now.many;
    }

    public int back() {
        if (!hasImage) {
            return STATE;
        }
        now.becomeAs(kept);
        return now.many;
    }

    // ---- the host

    public int sheet(int s, int sort, int n) {
        if (!isSheet(s) || !isWithin(sort, MISSING, INTS)) {
            return BAD;
        }
        if (sort == MISSING) {
            sheets[s].becomeRow(MISSING, 0);
            return 1;
        }
        if (n > MOST_NUMBERS) {
            return BAD;
        }
        if (n < 0) {
            return BELOW_ZERO;
        }
        sheets[s].becomeRow(sort, n);
        return 1;
    }

    public int cell(int s, int i, int v) {
        if (!isSheet(s)) {
            return BAD;
        }
        Sheet row = sheets[s];
        if (row.isMissing()) {
            return NOTHING_THERE;
        }
        if (!row.hasPlace(i)) {
            return OUTSIDE;
        }
        row.write(i, v);
        return 1;
    }

    public int copy(int s, int i, int other, int j, int n) {
        if (!isSheet(s) || !isSheet(other)) {
            return BAD;
        }
        Sheet from = sheets[s];
        Sheet to = sheets[other];
        if (from.isMissing() || to.isMissing()) {
            return NOTHING_THERE;
        }
        if (from.sort != to.sort) {
            return OTHER_SORT;
        }
        if (!from.hasPlaces(i, n) || !to.hasPlaces(j, n)) {
            return OUTSIDE;
        }
        System.arraycopy(from.numbers, i, to.numbers, j, n);
        return n;
    }

    public int bathersBy(int s, int sort, int from, int n) {
        if (!isSheet(s) || !isWithin(sort, BYTES, INTS) || !isWithin(n, 0, MOST_BATHERS)) {
            return BAD;
        }
        Sheet row = sheets[s];
        if (row.isMissing()) {
            return NOTHING_THERE;
        }
        if (row.sort != sort) {
            return OTHER_SORT;
        }
        int came = 0;
        int at = from;
        for (int i = 0; i < n; i++) {
            if (!row.hasPlace(at) || !row.hasPlace(at + 1)) {
                return OUTSIDE;
            }
            if (now.letIn(row.numbers[at], row.numbers[at + 1]) >= 0) {
                came++;
            }
            at += 2;
        }
        return came;
    }

    public int taken(int i, int kind) {
        if (!isWithin(kind, 0, WARM_ITSELF)) {
            return BAD;
        }
        if (!isWithin(i, 0, 2 * MOST_BATHERS - 1)) {
            return OUTSIDE;
        }
        int b = i % MOST_BATHERS;
        if (!now.has(b)) {
            return NOTHING_THERE;
        }
        if (i >= MOST_BATHERS) {
            return kind == WARM_ITSELF ? now.bathers[b].warm : OTHER_SORT;
        }
        return kind != WARM_ITSELF && isOf(now.bathers[b].kind, kind) ? b : OTHER_SORT;
    }

    // ---- in thought

    /** The thought starts from what is. */
    private void think() {
        thought.becomeAs(now);
    }

    /** The minutes pass in the thought as it stands: JOY of all then. */
    private int joyBehind(int n) {
        for (int m = 0; m < n; m++) {
            thought.passMinute();
        }
        return thought.joyOfAll();
    }

    /** From the thought as it stands. */
    private int minutesTillOut(int b) {
        for (int m = 0; m <= MOST_MINUTES; m++) {
            if (thought.bathers[b].bench == OUT) {
                return m;
            }
            thought.passMinute();
        }
        return NEVER;
    }

    private int joyPouring(int n, int bits) {
        think();
        for (int m = 0; m < n; m++) {
            if ((bits >> m & 1) == 1) {
                thought.pourLadles(1);
            }
            thought.passMinute();
        }
        return thought.joyOfAll();
    }

    /** Puts those who are IN in the thought by the way's digits to the base 3: as digits of all. */
    private int seatBy(int way) {
        int rest = way;
        int place = 1;
        int digits = 0;
        for (int b = thought.many - 1; b >= 0; b--) {
            Bather one = thought.bathers[b];
            if (one.bench != OUT) {
                one.bench = rest % 3;
                rest /= 3;
                digits += place * (one.bench + 1);
            }
            place *= 10;
        }
        return digits;
    }

    /** Whether both are IN in the thought, and so did change. */
    private boolean changeBenches(int b, int other) {
        Bather one = thought.bathers[b];
        Bather second = thought.bathers[other];
        if (one.bench == OUT || second.bench == OUT) {
            return false;
        }
        int bench = one.bench;
        one.bench = second.bench;
        second.bench = bench;
        return true;
    }

    private int joyBySeed(int seed) {
        think();
        long lot = seed + 1;
        for (int m = 0; m < 8; m++) {
            lot = lot * 48271 % 2147483647;
            int ladles = (int) (lot % 4);
            if (ladles > 0) {
                thought.pourLadles(ladles);
            }
            thought.passMinute();
        }
        return thought.joyOfAll();
    }

    /** The first number that is otherwise than in the thought as it stands. */
    private int firstOtherwise(int s, int b) {
        Sheet row = sheets[s];
        Bather one = thought.bathers[b];
        for (int i = 0; i < row.size; i++) {
            thought.passMinute();
            if (row.numbers[i] != one.warm) {
                return i;
            }
        }
        return NONE;
    }

    // ---- refusals and small things

    private static boolean isSheet(int s) {
        return s >= 0 && s < SHEETS;
    }

    /** Why a sheet can't be told minutes; 0: it can. */
    private int sheetRefusal(int s) {
        if (!isSheet(s)) {
            return BAD;
        }
        if (sheets[s].isMissing()) {
            return NOTHING_THERE;
        }
        return sheets[s].size > MOST_TOLD ? BAD : 0;
    }

    private int toldRefusal(int s, int b) {
        int refusal = sheetRefusal(s);
        if (refusal != 0) {
            return refusal;
        }
        return now.has(b) ? 0 : NO_BATHER;
    }

    private static boolean isWithin(int v, int least, int most) {
        return v >= least && v <= most;
    }

    private static int bounded(int v, int least, int most) {
        return Math.max(least, Math.min(most, v));
    }

    private static boolean isByte(int v) {
        return isWithin(v, 0, 255);
    }

    private static int mostOf(int what) {
        switch (what) {
            case 0:
                return LAST_MINUTE;
            case 1:
                return MOST_STONES;
            case 2:
                return MOST_STEAM;
            default:
                return MOST_WOOD;
        }
    }

    /** Whether each of the kind is of the other, too. */
    private static boolean isOf(int kind, int other) {
        return other == 0 || kind == other
            || kind == FAINTER && other == PROUD
            || kind == TALKER && other == CHILD;
    }

    /** A part of a fraction in lowest terms; NO, if nothing is below the line. */
    private static long lowest(int above, int below, int part) {
        if (below == 0) {
            return NO;
        }
        int common = below;
        int rest = above;
        for (int i = 0; i < 64 && rest != 0; i++) {
            int next = common % rest;
            common = rest;
            rest = next;
        }
        if (common == 0) {
            return NO;
        }
        return part == 0 ? above / common : below / common;
    }
}
