/** A hall of events; the document says what each call answers. */
public final class EventHall {
    public static final int BAD = -1, NONE = -2;

    // What number(), process() and trace() answer for BAD, since any small value may be a true one.
    private static final int NO_VALUE = -2_000_000_000;

    private static final int TEXT_ROOM = 4_000, FEED_BYTES = 20;
    private static final int LONGEST_WORD = 8, LONGEST_NUMBER = 9;
    private static final int MOST_RESOURCES = 8, MOST_STORES = 6, MOST_NUMBERS = 16;
    private static final int MOST_DEFINITIONS = 12, MOST_VARIABLES = 8, MOST_STATEMENTS = 250;
    private static final int MOST_BLOCKS_AROUND = 9, MOST_ONES_AROUND = 30;
    private static final int MOST_UNITS = 99, MOST_ROOM = 9_999;
    private static final int MOST_PLACES = MOST_RESOURCES + MOST_STORES;
    private static final int MOST_PROCESSES = 300, MOST_STEPS = 20_000, TRACE_ROOM = 1_000;
    private static final int LAST_TIME = 1_000_000_000, STEPS_MASK = (1 << 30) - 1;

    // One token more than bytes, for the text's end.
    private static final int TOKEN_ROOM = TEXT_ROOM + 1;
    private static final int NAME_ROOM =
            MOST_RESOURCES + MOST_STORES + MOST_NUMBERS + MOST_DEFINITIONS + MOST_VARIABLES;
    // A statement makes one act and at most one jump, a definition one finish.
    private static final int ACT_ROOM = 2 * MOST_STATEMENTS + MOST_DEFINITIONS;
    // 31 ones within one another keep at most three left sides each, behind eight arguments.
    private static final int STACK_ROOM = 128;

    private static final int FAULT_BYTES = 1, FAULT_TOKEN = 2, FAULT_TAKEN = 3;
    private static final int FAULT_UNKNOWN = 4, FAULT_MUCH = 5, FAULT_ARGUMENTS = 6;

    private static final int WRONG_DIVISOR = 1, WRONG_TIME = 2, WRONG_FREE = 3, WRONG_AMOUNT = 4;
    private static final int WRONG_CROWD = 5, WRONG_DRAW = 6, WRONG_PROCESS = 7;

    private static final int READY = 0, HOLDS = 1, AT_RESOURCE = 2, AT_STORE = 3;
    private static final int AWAITS = 4, ENDED = 5, WENT_WRONG = 6, IN_TURN = 7;

    // Sorts of words that are told.
    private static final int RESOURCE = 0, STORE = 1, NUMBER = 2, DEFINITION = 3, VARIABLE = 4, SORTS = 5;

    // Kinds of tokens: a sign of one byte is that byte, one of two is PAIR and its first byte,
    // a reserved word is KEY and its place in RESERVED.
    private static final int END_OF_TEXT = 0, NO_TOKEN = 1, WORD = 2, DIGITS = 3, PAIR = 256, KEY = 512;
    private static final int AND = PAIR + '&', OR = PAIR + '|', SAME = PAIR + '=';
    private static final int OTHER = PAIR + '!', AT_MOST = PAIR + '<', AT_LEAST = PAIR + '>';

    // Each word has a blank behind it.
    private static final String RESERVED = "resource store number process let if else while hold seize free put get await start stop wake say end now me draw units queue ";
    private static final int KEYS = 24;
    private static final int KEY_RESOURCE = KEY, KEY_STORE = KEY + 1, KEY_NUMBER = KEY + 2, KEY_PROCESS = KEY + 3;
    private static final int KEY_LET = KEY + 4, KEY_IF = KEY + 5, KEY_ELSE = KEY + 6, KEY_WHILE = KEY + 7;
    private static final int KEY_HOLD = KEY + 8, KEY_SEIZE = KEY + 9, KEY_FREE = KEY + 10, KEY_PUT = KEY + 11;
    private static final int KEY_GET = KEY + 12, KEY_AWAIT = KEY + 13, KEY_START = KEY + 14, KEY_STOP = KEY + 15;
    private static final int KEY_WAKE = KEY + 16, KEY_SAY = KEY + 17, KEY_END = KEY + 18, KEY_NOW = KEY + 19;
    private static final int KEY_ME = KEY + 20, KEY_DRAW = KEY + 21, KEY_UNITS = KEY + 22, KEY_QUEUE = KEY + 23;

    // Acts and operations are numbered by the kinds of their tokens; these have no token of their own.
    private static final int ACT_SET = 1, ACT_JUMP = 2, ACT_FINISH = 3;
    private static final int OP_CONSTANT = 1, OP_VARIABLE = 2, OP_NEGATE = 3, OP_TRUTH = 4;

    private final byte[] text = new byte[TEXT_ROOM];
    private int length;
    private final Tokens tokens = new Tokens();
    private final Program program = new Program();
    private final TextReader reader = new TextReader(tokens, program);
    private final Hall hall = new Hall(program);
    private boolean isRead;

    public EventHall() {
    }

    public int feed(int a, int b, int c, int d, int e) {
        if (length + FEED_BYTES > TEXT_ROOM) {
            return BAD;
        }
        append(a);
        append(b);
        append(c);
        append(d);
        append(e);
        return length;
    }

    private void append(int four) {
        for (int shift = 24; shift >= 0; shift -= 8) {
            if (length < TEXT_ROOM) {
                text[length] = (byte) (four >> shift);
                length++;
            }
        }
    }

    public int end(int n) {
        if (n < 0 || n > FEED_BYTES || length < FEED_BYTES) {
            return BAD;
        }
        length = length - FEED_BYTES + n;
        return length;
    }

    public int load() {
        tokens.part(text, length);
        length = 0;
        isRead = reader.readText();
        if (isRead) {
            hall.open();
        }
        return tokens.fault;
    }

    public int seed(int s) {
        return s < 0 ? BAD : hall.world.changeSeed(s);
    }

    public int start(int d, int a, int b, int c, int e) {
        return isRead && hall.admits(d) ? hall.admit(d, a, b, c, e) : BAD;
    }

    public int run(int n) {
        return isRead && isStepCount(n) ? hall.doSteps(n) : BAD;
    }

    public int turn(int n) {
        return isRead && isStepCount(n) ? hall.doTurn(n) : BAD;
    }

    private static boolean isStepCount(int n) {
        return n >= 1 && n <= MOST_STEPS;
    }

    public int state(int what) {
        if (what == 11) {
            return tokens.fault;
        }
        if (what == 12) {
            return tokens.faultAt;
        }
        return isRead ? hall.tellState(what) : BAD;
    }

    public int number(int i) {
        return isRead && i >= 0 && i < program.counts[NUMBER] ? hall.world.numberAt(i) : NO_VALUE;
    }

    public int process(int p, int what) {
        Proc proc = isRead ? hall.floor.find(p) : null;
        return proc == null ? NO_VALUE : hall.tellProcess(proc, what);
    }

    public int place(int r, int what) {
        Place found = isRead ? hall.world.placeAt(program.innerPlace(r)) : null;
        return found == null ? NONE : found.tell(what);
    }

    public long sum(int r, int what) {
        Place found = isRead ? hall.world.placeAt(program.innerPlace(r)) : null;
        return found == null ? BAD : found.tellSum(what);
    }

    public int trace(int k, int what) {
        return isRead ? hall.tellTrace(k, what) : NO_VALUE;
    }

    /** The tokens of a text, the one that is looked at, and the fault. */
    private static final class Tokens {
        private final long[] reserved = new long[KEYS];
        private final int[] kinds = new int[TOKEN_ROOM];
        private final int[] places = new int[TOKEN_ROOM];
        private final long[] values = new long[TOKEN_ROOM];
        private int count;
        private int next;
        private int current;
        private int kind;
        private int fault;
        private int faultAt = BAD;

        Tokens() {
            int known = 0;
            long letters = 0;
            for (int i = 0; i < RESERVED.length() && known < KEYS; i++) {
                char c = RESERVED.charAt(i);
                if (c == ' ') {
                    reserved[known] = letters;
                    known++;
                    letters = 0;
                } else {
                    letters = letters << 8 | c;
                }
            }
        }

        /** Parts the text up to its end or to what is no token, and looks at the first one. */
        void part(byte[] text, int length) {
            int end = Math.min(length, text.length);
            fault = 0;
            faultAt = BAD;
            count = 0;
            next = 0;
            boolean more = true;
            for (int i = 0; i < TOKEN_ROOM && more; i++) {
                skipBlanks(text, end);
                more = takeToken(text, end);
            }
            current = 0;
            kind = kinds[0];
        }

        private static int byteAt(byte[] text, int end, int i) {
            return i >= 0 && i < end && i < text.length ? text[i] & 255 : NONE;
        }

        private void skipBlanks(byte[] text, int end) {
            boolean inRemark = false;
            while (next < end) {
                int b = byteAt(text, end, next);
                if (inRemark) {
                    inRemark = b != 10;
                } else if (b == '#') {
                    inRemark = true;
                } else if (b != 9 && b != 10 && b != 13 && b != 32) {
                    return;
                }
                next++;
            }
        }

        /** Whether another token may follow. */
        private boolean takeToken(byte[] text, int end) {
            int first = byteAt(text, end, next);
            if (first == NONE) {
                return add(END_OF_TEXT, end, 0);
            }
            if (isLetter(first)) {
                return takeWord(text, end);
            }
            if (isDigit(first)) {
                return takeNumber(text, end);
            }
            return takeSign(first, byteAt(text, end, next + 1));
        }

        private boolean takeWord(byte[] text, int end) {
            int from = next;
            long word = 0;
            int b = byteAt(text, end, next);
            while (next < end && (isLetter(b) || isDigit(b))) {
                word = word << 8 | b;
                next++;
                b = byteAt(text, end, next);
            }
            if (next - from > LONGEST_WORD) {
                return add(NO_TOKEN, from, 0);
            }
            for (int i = 0; i < KEYS; i++) {
                if (reserved[i] == word) {
                    return add(KEY + i, from, word);
                }
            }
            return add(WORD, from, word);
        }

        private boolean takeNumber(byte[] text, int end) {
            int from = next;
            long value = 0;
            int b = byteAt(text, end, next);
            while (next < end && isDigit(b)) {
                value = value * 10 + b - '0';
                next++;
                b = byteAt(text, end, next);
            }
            if (next - from > LONGEST_NUMBER) {
                return add(NO_TOKEN, from, 0);
            }
            // The NUMBER is a token of its own, whose faults are met before that of the letter behind it.
            boolean more = add(DIGITS, from, value);
            return isLetter(b) ? add(NO_TOKEN, next, 0) : more;
        }

        private boolean takeSign(int first, int second) {
            int from = next;
            if (isPair(first, second)) {
                next += 2;
                return add(PAIR + first, from, 0);
            }
            next++;
            return add(isSign(first) ? first : NO_TOKEN, from, 0);
        }

        private boolean add(int newKind, int place, long value) {
            if (count >= TOKEN_ROOM) {
                return false;
            }
            kinds[count] = newKind;
            places[count] = place;
            values[count] = value;
            count++;
            return newKind != END_OF_TEXT && newKind != NO_TOKEN;
        }

        private static boolean isPair(int first, int second) {
            switch (first) {
                case '=': case '!': case '<': case '>':
                    return second == '=';
                case '&': case '|':
                    return second == first;
                default:
                    return false;
            }
        }

        private static boolean isSign(int b) {
            switch (b) {
                case '(': case ')': case '{': case '}': case ',': case ';': case '=': case '+':
                case '-': case '*': case '/': case '%': case '<': case '>': case '!':
                    return true;
                default:
                    return false;
            }
        }

        private static boolean isLetter(int b) {
            return b >= 'a' && b <= 'z' || b >= 'A' && b <= 'Z';
        }

        private static boolean isDigit(int b) {
            return b >= '0' && b <= '9';
        }

        /** Stays at the last one, the text's end or what is no token: nothing needs these two. */
        void advance() {
            if (current < count - 1) {
                current++;
                kind = kinds[current];
            }
        }

        int currentPlace() {
            return places[current];
        }

        /** Where the grammar has a WORD alone, a reserved one is a WORD too. */
        boolean isAnyWord() {
            return kind == WORD || kind >= KEY;
        }

        boolean isReserved() {
            return kind >= KEY;
        }

        /** The bytes of a word. */
        long word() {
            return values[current];
        }

        /** The value of a number. */
        int value() {
            return (int) values[current];
        }

        /** Goes on behind a token that must come here. */
        boolean need(int wanted) {
            if (kind != wanted) {
                return fail(FAULT_TOKEN);
            }
            advance();
            return true;
        }

        /** Always false, as all that reads answers at a fault. What is no token has the least fault of all. */
        boolean fail(int number) {
            fault = kind == NO_TOKEN ? FAULT_BYTES : number;
            faultAt = places[current];
            return false;
        }

        boolean failAt(int number, int place) {
            fault = number;
            faultAt = place;
            return false;
        }
    }

    /** What was read: the words that were told, the acts of the processes, and their expressions. */
    private static final class Program {
        private final long[] words = new long[NAME_ROOM];
        private final int[] sorts = new int[NAME_ROOM];
        private final int[] ranks = new int[NAME_ROOM];
        private int wordCount;
        private final int[] counts = new int[SORTS];
        private final int[] atFirst = new int[MOST_PLACES];
        private final int[] rooms = new int[MOST_PLACES];
        private final int[] parameterCounts = new int[MOST_DEFINITIONS];
        private final int[] variableCounts = new int[MOST_DEFINITIONS];
        private final int[] entries = new int[MOST_DEFINITIONS];
        private final int[] acts = new int[ACT_ROOM];
        private final int[] targets = new int[ACT_ROOM];
        private final int[] froms = new int[ACT_ROOM];
        private final int[] tos = new int[ACT_ROOM];
        private int actCount;
        // Expressions are rows of operations on a stack: a long chain of signs needs no recursion then.
        private final int[] ops = new int[TEXT_ROOM];
        private final int[] args = new int[TEXT_ROOM];
        private int opCount;

        void clear() {
            wordCount = 0;
            for (int i = 0; i < SORTS; i++) {
                counts[i] = 0;
            }
            for (int i = 0; i < MOST_PLACES; i++) {
                atFirst[i] = 0;
                rooms[i] = 0;
            }
            actCount = 0;
            opCount = 0;
        }

        void addWord(long word, int sort) {
            if (wordCount < NAME_ROOM && sort >= 0 && sort < SORTS) {
                words[wordCount] = word;
                sorts[wordCount] = sort;
                ranks[wordCount] = counts[sort];
                counts[sort]++;
                wordCount++;
            }
        }

        /** Variables are the last words that were told, as long as their process is read. */
        void dropVariables() {
            wordCount -= counts[VARIABLE];
            counts[VARIABLE] = 0;
        }

        /** Its place among its sort; NONE. */
        int find(long word, int sort) {
            for (int i = 0; i < wordCount; i++) {
                if (words[i] == word && sorts[i] == sort) {
                    return ranks[i];
                }
            }
            return NONE;
        }

        boolean isTaken(long word, int newSort) {
            for (int i = 0; i < wordCount; i++) {
                boolean mayBeHidden = newSort == VARIABLE && sorts[i] == NUMBER;
                if (words[i] == word && !mayBeHidden) {
                    return true;
                }
            }
            return false;
        }

        /** Numbers come behind all variables that a process may have; the word told last hides others. NONE. */
        int findValue(long word) {
            for (int i = wordCount - 1; i >= 0; i--) {
                if (words[i] == word && sorts[i] == VARIABLE) {
                    return ranks[i];
                }
                if (words[i] == word && sorts[i] == NUMBER) {
                    return MOST_VARIABLES + ranks[i];
                }
            }
            return NONE;
        }

        /** Stores come behind all resources that there may be; NONE. */
        int findPlace(long word, boolean mayBeResource, boolean mayBeStore) {
            for (int i = 0; i < wordCount; i++) {
                if (words[i] == word && sorts[i] == RESOURCE && mayBeResource) {
                    return ranks[i];
                }
                if (words[i] == word && sorts[i] == STORE && mayBeStore) {
                    return MOST_RESOURCES + ranks[i];
                }
            }
            return NONE;
        }

        int innerPlace(int r) {
            int resources = counts[RESOURCE];
            if (r < 0 || r >= resources + counts[STORE]) {
                return NONE;
            }
            return r < resources ? r : MOST_RESOURCES + r - resources;
        }

        int outerPlace(int place) {
            return place < MOST_RESOURCES ? place : counts[RESOURCE] + place - MOST_RESOURCES;
        }

        boolean isDefinition(int d) {
            return d >= 0 && d < counts[DEFINITION] && d < MOST_DEFINITIONS;
        }

        /** The act's expression is what was added from there on. */
        int addAct(int act, int target, int from) {
            if (actCount >= ACT_ROOM) {
                return NONE;
            }
            acts[actCount] = act;
            targets[actCount] = target;
            froms[actCount] = from;
            tos[actCount] = opCount;
            actCount++;
            return actCount - 1;
        }

        void aim(int act, int target) {
            if (act >= 0 && act < actCount) {
                targets[act] = target;
            }
        }

        int actAt(int i) {
            return i >= 0 && i < actCount ? acts[i] : ACT_FINISH;
        }

        int targetAt(int i) {
            return i >= 0 && i < actCount ? targets[i] : NONE;
        }

        /** Each operation stems from a byte of its own, so there is room for all of a text. */
        int addOp(int op, int arg) {
            if (opCount >= TEXT_ROOM) {
                return NONE;
            }
            ops[opCount] = op;
            args[opCount] = arg;
            opCount++;
            return opCount - 1;
        }

        /** Lets a skip (or none) lead behind the right side that it guards. */
        void closeSkip(int skip) {
            if (skip >= 0 && skip < opCount) {
                addOp(OP_TRUTH, 0);
                args[skip] = opCount;
            }
        }
    }

    /** Reads expressions. One loop serves two levels of the grammar, which keeps the open calls few. */
    private static final class FormulaReader {
        private final Tokens tokens;
        private final Program program;
        private boolean inAwait;

        FormulaReader(Tokens tokens, Program program) {
            this.tokens = tokens;
            this.program = program;
        }

        /** All of an exp; depth is how many ones it stands in. */
        boolean readExp(int depth) {
            int orSkip = NONE;
            int andSkip = NONE;
            for (int i = 0; i < TOKEN_ROOM; i++) {
                if (!readTest(depth)) {
                    return false;
                }
                program.closeSkip(andSkip);
                andSkip = NONE;
                if (tokens.kind == AND) {
                    andSkip = program.addOp(AND, 0);
                } else {
                    program.closeSkip(orSkip);
                    if (tokens.kind != OR) {
                        return true;
                    }
                    orSkip = program.addOp(OR, 0);
                }
                tokens.advance();
            }
            return false;
        }

        private boolean readTest(int depth) {
            if (!readSum(depth)) {
                return false;
            }
            int relation = tokens.kind;
            if (!isRelation(relation)) {
                return true;
            }
            tokens.advance();
            if (!readSum(depth)) {
                return false;
            }
            program.addOp(relation, 0);
            return true;
        }

        private static boolean isRelation(int kind) {
            switch (kind) {
                case '<': case '>': case AT_MOST: case AT_LEAST: case SAME: case OTHER:
                    return true;
                default:
                    return false;
            }
        }

        private boolean readSum(int depth) {
            int adding = NONE;
            int scaling = NONE;
            for (int i = 0; i < TOKEN_ROOM; i++) {
                if (!readOne(depth)) {
                    return false;
                }
                addSign(scaling);
                scaling = NONE;
                int kind = tokens.kind;
                if (kind == '*' || kind == '/' || kind == '%') {
                    scaling = kind;
                } else {
                    addSign(adding);
                    if (kind != '+' && kind != '-') {
                        return true;
                    }
                    adding = kind;
                }
                tokens.advance();
            }
            return false;
        }

        private void addSign(int sign) {
            if (sign != NONE) {
                program.addOp(sign, 0);
            }
        }

        private boolean readOne(int depth) {
            int fault = faultOfOne();
            if (fault == 0 && depth > MOST_ONES_AROUND) {
                fault = FAULT_MUCH;
            }
            if (fault != 0) {
                return tokens.fail(fault);
            }
            int kind = tokens.kind;
            long value = tokens.word();
            tokens.advance();
            switch (kind) {
                case DIGITS:
                    program.addOp(OP_CONSTANT, (int) value);
                    return true;
                case WORD:
                    program.addOp(OP_VARIABLE, program.findValue(value));
                    return true;
                case KEY_NOW: case KEY_ME:
                    program.addOp(kind, 0);
                    return true;
                case KEY_UNITS: case KEY_QUEUE:
                    return readLook(kind);
                case KEY_DRAW:
                    return tokens.need('(') && readInner(depth + 1) && addRead(KEY_DRAW);
                case '(':
                    return readInner(depth + 1);
                case '-':
                    return readOne(depth + 1) && addRead(OP_NEGATE);
                default:
                    return readOne(depth + 1) && addRead('!');
            }
        }

        /** The token's own fault as the first one of a one; it goes before that of standing too deep. */
        private int faultOfOne() {
            switch (tokens.kind) {
                case DIGITS: case '(': case '-': case '!':
                case KEY_NOW: case KEY_ME: case KEY_UNITS: case KEY_QUEUE:
                    return 0;
                case KEY_DRAW:
                    return inAwait ? FAULT_UNKNOWN : 0;
                case WORD:
                    return program.findValue(tokens.word()) == NONE ? FAULT_UNKNOWN : 0;
                default:
                    return FAULT_TOKEN;
            }
        }

        private boolean readInner(int depth) {
            return readExp(depth) && tokens.need(')');
        }

        private boolean addRead(int op) {
            program.addOp(op, 0);
            return true;
        }

        private boolean readLook(int key) {
            if (!tokens.isAnyWord()) {
                return tokens.fail(FAULT_TOKEN);
            }
            int place = program.findPlace(tokens.word(), true, true);
            if (place == NONE) {
                return tokens.fail(FAULT_UNKNOWN);
            }
            program.addOp(key, place);
            tokens.advance();
            return true;
        }
    }

    /** Reads items and statements. */
    private static final class TextReader {
        private final Tokens tokens;
        private final Program program;
        private final FormulaReader formulas;
        private int statementCount;
        // Starts of processes that were not told before them.
        private final long[] openWords = new long[MOST_STATEMENTS];
        private final int[] openPlaces = new int[MOST_STATEMENTS];
        private final int[] openArguments = new int[MOST_STATEMENTS];
        private final int[] openActs = new int[MOST_STATEMENTS];
        private int openCount;

        TextReader(Tokens tokens, Program program) {
            this.tokens = tokens;
            this.program = program;
            this.formulas = new FormulaReader(tokens, program);
        }

        boolean readText() {
            program.clear();
            statementCount = 0;
            openCount = 0;
            boolean good = true;
            for (int i = 0; i < TOKEN_ROOM && good && tokens.kind != END_OF_TEXT; i++) {
                switch (tokens.kind) {
                    case KEY_RESOURCE:
                        good = readResource();
                        break;
                    case KEY_STORE:
                        good = readStore();
                        break;
                    case KEY_NUMBER:
                        good = readNumbers();
                        break;
                    case KEY_PROCESS:
                        good = readProcess();
                        break;
                    default:
                        good = tokens.fail(FAULT_TOKEN);
                }
            }
            return good && closeStarts();
        }

        private boolean readResource() {
            tokens.advance();
            int resource = program.counts[RESOURCE];
            if (!tell(RESOURCE, MOST_RESOURCES) || !checkNumber(1, MOST_UNITS)) {
                return false;
            }
            setPlace(resource, tokens.value(), tokens.value());
            tokens.advance();
            return tokens.need(';');
        }

        private boolean readStore() {
            tokens.advance();
            int store = MOST_RESOURCES + program.counts[STORE];
            if (!tell(STORE, MOST_STORES) || !checkNumber(0, MOST_ROOM)) {
                return false;
            }
            int first = tokens.value();
            tokens.advance();
            if (!checkNumber(Math.max(1, first), MOST_ROOM)) {
                return false;
            }
            setPlace(store, first, tokens.value());
            tokens.advance();
            return tokens.need(';');
        }

        private void setPlace(int place, int first, int room) {
            if (place >= 0 && place < MOST_PLACES) {
                program.atFirst[place] = first;
                program.rooms[place] = room;
            }
        }

        private boolean checkNumber(int least, int most) {
            if (tokens.kind != DIGITS) {
                return tokens.fail(FAULT_TOKEN);
            }
            return tokens.value() >= least && tokens.value() <= most || tokens.fail(FAULT_MUCH);
        }

        private boolean readNumbers() {
            tokens.advance();
            return readWords(NUMBER, MOST_NUMBERS) && tokens.need(';');
        }

        private boolean readWords(int sort, int most) {
            for (int i = 0; i < TOKEN_ROOM; i++) {
                if (!tell(sort, most)) {
                    return false;
                }
                if (tokens.kind != ',') {
                    return true;
                }
                tokens.advance();
            }
            return false;
        }

        private boolean tell(int sort, int most) {
            long word = tokens.word();
            if (!checkNewWord(sort, most)) {
                return false;
            }
            program.addWord(word, sort);
            tokens.advance();
            return true;
        }

        private boolean checkNewWord(int sort, int most) {
            if (!tokens.isAnyWord()) {
                return tokens.fail(FAULT_TOKEN);
            }
            if (tokens.isReserved() || program.isTaken(tokens.word(), sort)) {
                return tokens.fail(FAULT_TAKEN);
            }
            return program.counts[sort] < most || tokens.fail(FAULT_MUCH);
        }

        private boolean readProcess() {
            tokens.advance();
            int definition = program.counts[DEFINITION];
            if (!tell(DEFINITION, MOST_DEFINITIONS) || !program.isDefinition(definition)) {
                return false;
            }
            if (!tokens.need('(')) {
                return false;
            }
            if (tokens.kind != ')' && !readWords(VARIABLE, MOST_VARIABLES)) {
                return false;
            }
            program.parameterCounts[definition] = program.counts[VARIABLE];
            program.entries[definition] = program.actCount;
            if (!tokens.need(')') || !readBlock(0)) {
                return false;
            }
            program.variableCounts[definition] = program.counts[VARIABLE];
            program.dropVariables();
            program.addAct(ACT_FINISH, NONE, program.opCount);
            return true;
        }

        private boolean closeStarts() {
            for (int i = 0; i < openCount; i++) {
                int definition = program.find(openWords[i], DEFINITION);
                boolean fits = program.isDefinition(definition)
                        && program.parameterCounts[definition] == openArguments[i];
                if (!fits) {
                    return tokens.failAt(FAULT_ARGUMENTS, openPlaces[i]);
                }
                program.aim(openActs[i], definition);
            }
            return true;
        }

        /** Depth is how many blocks it stands in. */
        private boolean readBlock(int depth) {
            if (tokens.kind == '{' && depth > MOST_BLOCKS_AROUND) {
                return tokens.fail(FAULT_MUCH);
            }
            if (!tokens.need('{')) {
                return false;
            }
            for (int i = 0; i < TOKEN_ROOM && tokens.kind != '}'; i++) {
                if (!readStatement(depth)) {
                    return false;
                }
            }
            return tokens.need('}');
        }

        private boolean readStatement(int depth) {
            int fault = faultOfStatement();
            if (fault == 0 && statementCount >= MOST_STATEMENTS) {
                fault = FAULT_MUCH;
            }
            if (fault != 0) {
                return tokens.fail(fault);
            }
            statementCount++;
            int kind = tokens.kind;
            long word = tokens.word();
            tokens.advance();
            switch (kind) {
                case WORD:
                    return tokens.need('=') && readPlain(ACT_SET, program.findValue(word));
                case KEY_IF:
                    return readIf(depth);
                case KEY_WHILE:
                    return readWhile(depth);
                case KEY_LET:
                    return readLet();
                case KEY_START:
                    return readStart();
                case KEY_SEIZE: case KEY_FREE:
                    return readUse(kind, true);
                case KEY_PUT: case KEY_GET:
                    return readUse(kind, false);
                case KEY_END:
                    return closeStatement(kind, NONE, program.opCount);
                default:
                    return readPlain(kind, NONE);
            }
        }

        /** The token's own fault as the first one of a statement; it goes before that of one too many. */
        private int faultOfStatement() {
            int kind = tokens.kind;
            if (kind == WORD) {
                return program.findValue(tokens.word()) == NONE ? FAULT_UNKNOWN : 0;
            }
            if (kind >= KEY_LET && kind <= KEY_END && kind != KEY_ELSE) {
                return 0;
            }
            return FAULT_TOKEN;
        }

        private boolean closeStatement(int act, int target, int from) {
            program.addAct(act, target, from);
            return tokens.need(';');
        }

        private boolean readPlain(int act, int target) {
            int from = program.opCount;
            formulas.inAwait = act == KEY_AWAIT;
            boolean good = formulas.readExp(0);
            formulas.inAwait = false;
            return good && closeStatement(act, target, from);
        }

        /** The word is told behind its expression, which may still mean a number that it hides. */
        private boolean readLet() {
            long word = tokens.word();
            if (!checkNewWord(VARIABLE, MOST_VARIABLES)) {
                return false;
            }
            tokens.advance();
            int from = program.opCount;
            if (!tokens.need('=') || !formulas.readExp(0)) {
                return false;
            }
            int variable = program.counts[VARIABLE];
            program.addWord(word, VARIABLE);
            return closeStatement(ACT_SET, variable, from);
        }

        private boolean readIf(int depth) {
            int from = program.opCount;
            if (!formulas.readExp(0)) {
                return false;
            }
            int choice = program.addAct(KEY_IF, NONE, from);
            if (!readBlock(depth + 1)) {
                return false;
            }
            if (tokens.kind != KEY_ELSE) {
                program.aim(choice, program.actCount);
                return true;
            }
            tokens.advance();
            int jump = program.addAct(ACT_JUMP, NONE, program.opCount);
            program.aim(choice, program.actCount);
            if (!readBlock(depth + 1)) {
                return false;
            }
            program.aim(jump, program.actCount);
            return true;
        }

        private boolean readWhile(int depth) {
            int from = program.opCount;
            if (!formulas.readExp(0)) {
                return false;
            }
            int loop = program.addAct(KEY_WHILE, NONE, from);
            if (!readBlock(depth + 1)) {
                return false;
            }
            program.addAct(ACT_JUMP, loop, program.opCount);
            program.aim(loop, program.actCount);
            return true;
        }

        private boolean readUse(int kind, boolean ofResource) {
            if (!tokens.isAnyWord()) {
                return tokens.fail(FAULT_TOKEN);
            }
            int place = program.findPlace(tokens.word(), ofResource, !ofResource);
            if (place == NONE) {
                return tokens.fail(FAULT_UNKNOWN);
            }
            tokens.advance();
            int from = program.opCount;
            if (kind == KEY_SEIZE && tokens.kind == ';') {
                program.addOp(OP_CONSTANT, 0);
            } else if (kind != KEY_FREE && !formulas.readExp(0)) {
                return false;
            }
            return closeStatement(kind, place, from);
        }

        private boolean readStart() {
            if (!tokens.isAnyWord()) {
                return tokens.fail(FAULT_TOKEN);
            }
            long word = tokens.word();
            int wordPlace = tokens.currentPlace();
            int from = program.opCount;
            tokens.advance();
            if (!tokens.need('(')) {
                return false;
            }
            int arguments = 0;
            for (int i = 0; i < TOKEN_ROOM && tokens.kind != ')'; i++) {
                if (arguments > 0 && !tokens.need(',') || !formulas.readExp(0)) {
                    return false;
                }
                arguments++;
            }
            int definition = program.find(word, DEFINITION);
            if (program.isDefinition(definition) && program.parameterCounts[definition] != arguments) {
                return tokens.fail(FAULT_ARGUMENTS);
            }
            tokens.advance();
            if (tokens.kind == ';') {
                program.addOp(OP_CONSTANT, 0);
            } else if (!formulas.readExp(0)) {
                return false;
            }
            if (definition == NONE) {
                keepOpen(word, wordPlace, arguments);
            }
            return closeStatement(KEY_START, definition, from);
        }

        /** Comes just before the act of the start is added. */
        private void keepOpen(long word, int wordPlace, int arguments) {
            if (openCount < MOST_STATEMENTS) {
                openWords[openCount] = word;
                openPlaces[openCount] = wordPlace;
                openArguments[openCount] = arguments;
                openActs[openCount] = program.actCount;
                openCount++;
            }
        }
    }

    /** One process that was started. */
    private static final class Proc {
        private final int number;
        private int definition;
        private int status;
        private int at;
        private int wrong;
        private final int[] values = new int[MOST_VARIABLES];
        private final int[] units = new int[MOST_RESOURCES];
        // The line where it stands, what it is ordered by there (a time, a priority), and who is behind it.
        private Line line;
        private int key;
        private Proc behind;
        private int since;
        private int where;
        private int amount;

        Proc(int number) {
            this.number = number;
        }

        void begin(int newDefinition, int entry) {
            definition = newDefinition;
            status = IN_TURN;
            at = entry;
            wrong = 0;
            for (int i = 0; i < MOST_VARIABLES; i++) {
                values[i] = 0;
            }
            for (int i = 0; i < MOST_RESOURCES; i++) {
                units[i] = 0;
            }
            line = null;
            behind = null;
            where = NONE;
        }

        int unitsInAll() {
            int all = 0;
            for (int i = 0; i < MOST_RESOURCES; i++) {
                all += units[i];
            }
            return all;
        }

        boolean isInCalendar() {
            return status == READY || status == HOLDS;
        }

        boolean isOver() {
            return status == ENDED || status == WENT_WRONG;
        }
    }

    /** A line of processes; each stands in one line at most. */
    private static final class Line {
        private Proc first;
        private int count;

        void clear() {
            first = null;
            count = 0;
        }

        /** Behind all with the same or a lesser key. */
        void join(Proc proc, int key) {
            Proc before = null;
            for (Proc one = first; one != null && one.key <= key; one = one.behind) {
                before = one;
            }
            if (before == null) {
                proc.behind = first;
                first = proc;
            } else {
                proc.behind = before.behind;
                before.behind = proc;
            }
            proc.key = key;
            proc.line = this;
            count++;
        }

        Proc takeFirst() {
            Proc taken = first;
            if (taken != null) {
                first = taken.behind;
                taken.behind = null;
                taken.line = null;
                count--;
            }
            return taken;
        }

        void drop(Proc proc) {
            Proc before = null;
            for (Proc one = first; one != null && one != proc; one = one.behind) {
                before = one;
            }
            if (before == null) {
                first = proc.behind;
            } else {
                before.behind = proc.behind;
            }
            proc.behind = null;
            proc.line = null;
            count--;
        }

        Proc find(int k) {
            Proc one = first;
            for (int i = 0; i < k && one != null; i++) {
                one = one.behind;
            }
            return one;
        }
    }

    /** A resource or a store. */
    private static final class Place {
        private final boolean isStore;
        // All that wait for a resource, or those that get from a store.
        private final Line takers = new Line();
        private final Line putters = new Line();
        private int there;
        private int room;
        private int served;
        private int servedLate;
        private int mostWaiting;
        private long filledSum;
        private long waitingSum;
        private long lateSum;

        Place(boolean isStore) {
            this.isStore = isStore;
        }

        void open(int atFirst, int newRoom) {
            takers.clear();
            putters.clear();
            there = atFirst;
            room = newRoom;
            served = 0;
            servedLate = 0;
            mostWaiting = 0;
            filledSum = 0;
            waitingSum = 0;
            lateSum = 0;
        }

        int waiting() {
            return takers.count + putters.count;
        }

        void pass(long span) {
            filledSum += span * (isStore ? there : room - there);
            waitingSum += span * waiting();
        }

        void countLate(long late) {
            served++;
            servedLate++;
            lateSum += late;
        }

        /** The next one that can be served by a store, which it is then; null. */
        Proc serveNext() {
            Proc getter = takers.first;
            if (getter != null && getter.amount <= there) {
                there -= getter.amount;
                return takers.takeFirst();
            }
            Proc putter = putters.first;
            if (putter != null && putter.amount <= room - there) {
                there += putter.amount;
                return putters.takeFirst();
            }
            return null;
        }

        int tell(int what) {
            switch (what) {
                case 0:
                    return there;
                case 1:
                    return waiting();
                case 2:
                    return room;
                case 3:
                    return served;
                case 4:
                    return servedLate;
                case 5:
                    return mostWaiting;
                default:
                    return what < 10 ? NONE : tellWaiting(what - 10);
            }
        }

        private int tellWaiting(int k) {
            Proc one = k < takers.count ? takers.find(k) : putters.find(k - takers.count);
            return one == null ? NONE : one.number;
        }

        long tellSum(int what) {
            switch (what) {
                case 0:
                    return filledSum;
                case 1:
                    return waitingSum;
                case 2:
                    return lateSum;
                default:
                    return BAD;
            }
        }
    }

    /** What expressions look at, and their reckoning. */
    private static final class World {
        private int time;
        private int seed = 1;
        private final int[] numbers = new int[MOST_NUMBERS];
        private final Place[] places = new Place[MOST_PLACES];
        private final int[] stack = new int[STACK_ROOM];
        private int top;

        World() {
            for (int i = 0; i < MOST_PLACES; i++) {
                places[i] = new Place(i >= MOST_RESOURCES);
            }
        }

        void open(Program program) {
            time = 0;
            for (int i = 0; i < MOST_NUMBERS; i++) {
                numbers[i] = 0;
            }
            for (int i = 0; i < MOST_PLACES; i++) {
                Place place = places[i];
                if (place != null) {
                    place.open(program.atFirst[i], program.rooms[i]);
                }
            }
        }

        int changeSeed(int newSeed) {
            int old = seed;
            seed = newSeed;
            return old;
        }

        int numberAt(int i) {
            return i >= 0 && i < MOST_NUMBERS ? numbers[i] : NO_VALUE;
        }

        Place placeAt(int i) {
            return i >= 0 && i < MOST_PLACES ? places[i] : null;
        }

        int waitingAtPlaces() {
            int all = 0;
            for (int i = 0; i < MOST_PLACES; i++) {
                all += look(KEY_QUEUE, i);
            }
            return all;
        }

        void goTo(int newTime) {
            long span = (long) newTime - time;
            for (int i = 0; i < MOST_PLACES && span > 0; i++) {
                Place place = places[i];
                if (place != null) {
                    place.pass(span);
                }
            }
            time = newTime;
        }

        void assign(Proc me, int target, int value) {
            if (target >= 0 && target < MOST_VARIABLES) {
                me.values[target] = value;
            } else if (target >= MOST_VARIABLES && target < MOST_VARIABLES + MOST_NUMBERS) {
                numbers[target - MOST_VARIABLES] = value;
            }
        }

        private int valueOf(Proc me, int target) {
            if (target >= 0 && target < MOST_VARIABLES) {
                return me.values[target];
            }
            return numberAt(target - MOST_VARIABLES);
        }

        /** Leaves the values of an act's expressions as results; how it goes WRONG, or 0. */
        int reckon(Program program, int act, Proc me) {
            top = 0;
            if (act < 0 || act >= program.actCount) {
                return 0;
            }
            int to = Math.min(program.tos[act], TEXT_ROOM);
            for (int at = Math.max(0, program.froms[act]); at < to; at++) {
                int op = program.ops[at];
                if (op == AND || op == OR) {
                    // A skip leads forward only.
                    at = skips(op) ? Math.max(at, program.args[at] - 1) : at;
                } else {
                    int wrong = apply(op, program.args[at], me);
                    if (wrong != 0) {
                        return wrong;
                    }
                }
            }
            return 0;
        }

        int result(int i) {
            return i >= 0 && i < top && i < STACK_ROOM ? stack[i] : 0;
        }

        private void push(int value) {
            if (top >= 0 && top < STACK_ROOM) {
                stack[top] = value;
                top++;
            }
        }

        private int pop() {
            if (top <= 0 || top > STACK_ROOM) {
                return 0;
            }
            top--;
            return stack[top];
        }

        /** Whether the left side is enough: its truth stays as the value then. */
        private boolean skips(int op) {
            boolean left = pop() != 0;
            boolean isEnough = left == (op == OR);
            if (isEnough) {
                push(truth(left));
            }
            return isEnough;
        }

        private static int truth(boolean is) {
            return is ? 1 : 0;
        }

        private int apply(int op, int arg, Proc me) {
            switch (op) {
                case OP_CONSTANT:
                    push(arg);
                    return 0;
                case OP_VARIABLE:
                    push(valueOf(me, arg));
                    return 0;
                case KEY_NOW:
                    push(time);
                    return 0;
                case KEY_ME:
                    push(me.number);
                    return 0;
                case KEY_UNITS: case KEY_QUEUE:
                    push(look(op, arg));
                    return 0;
                case KEY_DRAW:
                    return draw(pop());
                case OP_NEGATE:
                    push(-pop());
                    return 0;
                case OP_TRUTH:
                    push(truth(pop() != 0));
                    return 0;
                case '!':
                    push(truth(pop() == 0));
                    return 0;
                default:
                    return applyToTwo(op);
            }
        }

        private int look(int key, int i) {
            Place place = placeAt(i);
            if (place == null) {
                return 0;
            }
            return key == KEY_UNITS ? place.there : place.waiting();
        }

        private int draw(int below) {
            if (below < 1) {
                return WRONG_DRAW;
            }
            seed = (int) ((1_103_515_245L * seed + 12_345L) & 0x7fff_ffffL);
            push((seed >> 8) % below);
            return 0;
        }

        private int applyToTwo(int op) {
            int right = pop();
            int left = pop();
            if (op == '/' || op == '%') {
                if (right == 0) {
                    return WRONG_DIVISOR;
                }
                push(op == '/' ? left / right : left % right);
                return 0;
            }
            if (op == '+' || op == '-' || op == '*') {
                push(combine(op, left, right));
            } else {
                push(truth(holds(op, left, right)));
            }
            return 0;
        }

        private static int combine(int op, int left, int right) {
            switch (op) {
                case '+':
                    return left + right;
                case '-':
                    return left - right;
                default:
                    return left * right;
            }
        }

        private static boolean holds(int relation, int left, int right) {
            switch (relation) {
                case '<':
                    return left < right;
                case '>':
                    return left > right;
                case AT_MOST:
                    return left <= right;
                case AT_LEAST:
                    return left >= right;
                case SAME:
                    return left == right;
                default:
                    return left != right;
            }
        }
    }

    /** Who stands where: in the calendar, at a place, among those that await. */
    private static final class Floor {
        private final World world;
        private final Proc[] procs = new Proc[MOST_PROCESSES];
        private final Line calendar = new Line();
        private final Line awaiting = new Line();
        private int started;
        private int ended;
        private int wentWrong;

        Floor(World world) {
            this.world = world;
        }

        void clear() {
            calendar.clear();
            awaiting.clear();
            started = 0;
            ended = 0;
            wentWrong = 0;
        }

        boolean isFull() {
            return started >= MOST_PROCESSES;
        }

        /** Null: there is no such process. */
        Proc find(int p) {
            return p >= 0 && p < started && p < MOST_PROCESSES ? procs[p] : null;
        }

        /** The next process, which stands nowhere yet; null: a 301st one. Those of an earlier text are used again. */
        Proc add(int definition, int entry) {
            if (isFull()) {
                return null;
            }
            Proc proc = procs[started];
            if (proc == null) {
                proc = new Proc(started);
                procs[started] = proc;
            }
            proc.begin(definition, entry);
            started++;
            return proc;
        }

        /** From where it stands, if it does. */
        void putInCalendar(Proc proc, int status, int time) {
            Line line = proc.line;
            if (line != null) {
                line.drop(proc);
            }
            proc.status = status;
            proc.since = world.time;
            proc.where = NONE;
            calendar.join(proc, time);
        }

        /** Of a process, or of none. */
        void wake(Proc proc) {
            if (proc != null && proc.status == HOLDS) {
                putInCalendar(proc, READY, world.time);
            }
        }

        void makeAwait(Proc proc) {
            proc.status = AWAITS;
            proc.since = world.time;
            awaiting.join(proc, 0);
        }

        private void makeWait(Proc proc, int status, int where) {
            proc.status = status;
            proc.since = world.time;
            proc.where = where;
            Place place = world.placeAt(where);
            if (place != null) {
                place.mostWaiting = Math.max(place.mostWaiting, place.waiting());
            }
        }

        void seize(Proc proc, int resource, int priority) {
            Place place = world.placeAt(resource);
            if (place == null || resource >= MOST_RESOURCES) {
                return;
            }
            if (place.there > 0) {
                place.there--;
                proc.units[resource]++;
                place.served++;
                return;
            }
            place.takers.join(proc, priority);
            makeWait(proc, AT_RESOURCE, resource);
        }

        /** One unit goes back, to the first one that waits; false: it has none. */
        boolean giveBack(Proc proc, int resource) {
            Place place = world.placeAt(resource);
            if (place == null || resource >= MOST_RESOURCES || proc.units[resource] <= 0) {
                return false;
            }
            proc.units[resource]--;
            Proc taker = place.takers.first;
            if (taker == null) {
                place.there++;
                return true;
            }
            taker.units[resource]++;
            place.countLate(world.time - taker.since);
            putInCalendar(taker, READY, world.time);
            return true;
        }

        /** How it goes WRONG, or 0. */
        int trade(Proc proc, int store, int amount, boolean puts) {
            Place place = world.placeAt(store);
            if (place == null || amount < 1 || amount > place.room) {
                return WRONG_AMOUNT;
            }
            proc.amount = amount;
            Line line = puts ? place.putters : place.takers;
            line.join(proc, 0);
            if (!serve(place, proc)) {
                makeWait(proc, AT_STORE, store);
            }
            return 0;
        }

        /** Serves whom the store can; whether the one in its own statement was among these. */
        private boolean serve(Place store, Proc own) {
            boolean isOwnServed = false;
            Proc proc = store.serveNext();
            for (int i = 0; i < MOST_PROCESSES && proc != null; i++) {
                if (proc == own) {
                    isOwnServed = true;
                    store.served++;
                } else {
                    store.countLate(world.time - proc.since);
                    putInCalendar(proc, READY, world.time);
                }
                proc = store.serveNext();
            }
            return isOwnServed;
        }

        /** Ends a process (or none, or one that is over), or lets it go WRONG so. */
        void finish(Proc proc, int wrong) {
            if (proc == null || proc.isOver()) {
                return;
            }
            Line line = proc.line;
            if (line != null) {
                line.drop(proc);
            }
            Place store = proc.status == AT_STORE ? world.placeAt(proc.where) : null;
            proc.status = wrong == 0 ? ENDED : WENT_WRONG;
            proc.wrong = wrong;
            ended += wrong == 0 ? 1 : 0;
            wentWrong += wrong == 0 ? 0 : 1;
            if (store != null) {
                // Who stood behind it may be the first one now.
                serve(store, null);
            }
            for (int r = 0; r < MOST_RESOURCES; r++) {
                for (int units = proc.units[r]; units > 0; units--) {
                    giveBack(proc, r);
                }
            }
        }
    }

    /** Runs the processes, statement by statement, and tells of them. */
    private static final class Hall {
        private final Program program;
        private final World world = new World();
        private final Floor floor = new Floor(world);
        private Proc amid;
        private int steps;
        private int turns;
        private final int[] traceTimes = new int[TRACE_ROOM];
        private final int[] traceValues = new int[TRACE_ROOM];
        private int traceCount;

        Hall(Program program) {
            this.program = program;
        }

        void open() {
            world.open(program);
            floor.clear();
            amid = null;
            steps = 0;
            turns = 0;
            traceCount = 0;
        }

        boolean admits(int definition) {
            return amid == null && program.isDefinition(definition) && !floor.isFull();
        }

        int admit(int definition, int a, int b, int c, int e) {
            Proc proc = add(definition);
            if (proc == null) {
                return BAD;
            }
            int parameters = program.parameterCounts[definition];
            proc.values[0] = parameters > 0 ? a : 0;
            proc.values[1] = parameters > 1 ? b : 0;
            proc.values[2] = parameters > 2 ? c : 0;
            proc.values[3] = parameters > 3 ? e : 0;
            floor.putInCalendar(proc, READY, world.time);
            return proc.number;
        }

        private Proc add(int definition) {
            return program.isDefinition(definition) ? floor.add(definition, program.entries[definition]) : null;
        }

        int doSteps(int limit) {
            int done = 0;
            // A turn without a step ends its process, so there are no more of these than processes.
            for (int i = 0; i < 2 * (limit + MOST_PROCESSES) && done < limit; i++) {
                if (amid != null) {
                    doStep(amid);
                    done++;
                } else if (beginTurn() == NONE) {
                    return done;
                }
            }
            return done;
        }

        int doTurn(int limit) {
            int number = amid == null ? beginTurn() : amid.number;
            for (int done = 0; done < limit && amid != null; done++) {
                doStep(amid);
            }
            return amid == null ? number : -3 - number;
        }

        /** Whose turn it is; NONE: the calendar is empty. */
        private int beginTurn() {
            Proc proc = floor.calendar.takeFirst();
            if (proc == null) {
                return NONE;
            }
            world.goTo(proc.key);
            proc.status = IN_TURN;
            amid = proc;
            goToStatement(proc);
            if (proc.status != IN_TURN) {
                closeTurn();
            }
            return proc.number;
        }

        private void doStep(Proc proc) {
            steps = (steps + 1) & STEPS_MASK;
            int act = proc.at;
            proc.at = act + 1;
            int wrong = world.reckon(program, act, proc);
            if (wrong == 0) {
                wrong = perform(proc, act, world.result(0));
            }
            if (wrong != 0) {
                floor.finish(proc, wrong);
            }
            goToStatement(proc);
            if (proc.status != IN_TURN) {
                closeTurn();
            }
        }

        /** Goes on to the next statement, or over the end of the process's block: these take no step. */
        private void goToStatement(Proc proc) {
            if (proc.status != IN_TURN) {
                return;
            }
            for (int i = 0; i < ACT_ROOM && program.actAt(proc.at) == ACT_JUMP; i++) {
                proc.at = program.targetAt(proc.at);
            }
            if (program.actAt(proc.at) == ACT_FINISH) {
                floor.finish(proc, 0);
            }
        }

        private void closeTurn() {
            amid = null;
            turns++;
            Proc proc = floor.awaiting.first;
            while (proc != null) {
                // It may leave the line, but none of those behind it does.
                Proc behind = proc.behind;
                int wrong = world.reckon(program, proc.at - 1, proc);
                if (wrong != 0) {
                    floor.finish(proc, wrong);
                } else if (world.result(0) != 0) {
                    floor.putInCalendar(proc, READY, world.time);
                }
                proc = behind;
            }
        }

        /** How it goes WRONG, or 0. */
        private int perform(Proc proc, int act, int value) {
            int target = program.targetAt(act);
            switch (program.actAt(act)) {
                case ACT_SET:
                    world.assign(proc, target, value);
                    return 0;
                case KEY_IF: case KEY_WHILE:
                    proc.at = value == 0 ? target : proc.at;
                    return 0;
                case KEY_HOLD:
                    return hold(proc, value);
                case KEY_SEIZE:
                    floor.seize(proc, target, value);
                    return 0;
                case KEY_FREE:
                    return floor.giveBack(proc, target) ? 0 : WRONG_FREE;
                case KEY_PUT:
                    return floor.trade(proc, target, value, true);
                case KEY_GET:
                    return floor.trade(proc, target, value, false);
                case KEY_AWAIT:
                    if (value == 0) {
                        floor.makeAwait(proc);
                    }
                    return 0;
                case KEY_START:
                    return startAnother(target);
                case KEY_STOP:
                    floor.finish(floor.find(value), 0);
                    return floor.find(value) == null ? WRONG_PROCESS : 0;
                case KEY_WAKE:
                    floor.wake(floor.find(value));
                    return floor.find(value) == null ? WRONG_PROCESS : 0;
                case KEY_SAY:
                    say(value);
                    return 0;
                default:
                    floor.finish(proc, 0);
                    return 0;
            }
        }

        private boolean isTimeAhead(int span) {
            return span >= 0 && (long) world.time + span <= LAST_TIME;
        }

        private int hold(Proc proc, int span) {
            if (!isTimeAhead(span)) {
                return WRONG_TIME;
            }
            floor.putInCalendar(proc, HOLDS, world.time + span);
            return 0;
        }

        /** The results are its arguments, and behind these the span until it goes on. */
        private int startAnother(int definition) {
            int parameters = program.isDefinition(definition) ? program.parameterCounts[definition] : 0;
            int span = world.result(parameters);
            if (!isTimeAhead(span)) {
                return WRONG_TIME;
            }
            Proc proc = add(definition);
            if (proc == null) {
                return WRONG_CROWD;
            }
            for (int i = 0; i < parameters && i < MOST_VARIABLES; i++) {
                proc.values[i] = world.result(i);
            }
            floor.putInCalendar(proc, READY, world.time + span);
            return 0;
        }

        private void say(int value) {
            if (traceCount < TRACE_ROOM) {
                traceTimes[traceCount] = world.time;
                traceValues[traceCount] = value;
            }
            traceCount++;
        }

        int tellState(int what) {
            switch (what) {
                case 0:
                    return world.time;
                case 1:
                    return steps;
                case 2:
                    return turns;
                case 3:
                    return floor.started;
                case 4:
                    return floor.calendar.count;
                case 5:
                    return world.waitingAtPlaces() + floor.awaiting.count;
                case 6:
                    return floor.ended;
                case 7:
                    return floor.wentWrong;
                case 8:
                    return traceCount;
                case 9:
                    return world.seed;
                case 10:
                    return amid == null ? NONE : amid.number;
                default:
                    return BAD;
            }
        }

        int tellProcess(Proc proc, int what) {
            switch (what) {
                case 0:
                    return proc.definition;
                case 1:
                    return proc.status;
                case 2:
                    return proc.isInCalendar() ? proc.key : NONE;
                case 3:
                    boolean isAtPlace = proc.status == AT_RESOURCE || proc.status == AT_STORE;
                    return isAtPlace ? program.outerPlace(proc.where) : NONE;
                case 4:
                    return proc.unitsInAll();
                case 5:
                    return proc.wrong;
                case 6:
                    return proc.status < ENDED ? proc.since : NONE;
                default:
                    return tellVariable(proc, what - 10);
            }
        }

        private int tellVariable(Proc proc, int variable) {
            boolean isTold = program.isDefinition(proc.definition)
                    && variable >= 0 && variable < MOST_VARIABLES
                    && variable < program.variableCounts[proc.definition];
            return isTold ? proc.values[variable] : NO_VALUE;
        }

        int tellTrace(int k, int what) {
            if (k < 0 || k >= traceCount || k >= TRACE_ROOM) {
                return NO_VALUE;
            }
            switch (what) {
                case 0:
                    return traceTimes[k];
                case 1:
                    return traceValues[k];
                default:
                    return NO_VALUE;
            }
        }
    }
}
