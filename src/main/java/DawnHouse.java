/**
 * A house that makes reports on time. The words in capitals are those of the document; every row is
 * made with the object and used again, so that no call makes anything.
 */
public final class DawnHouse {
    public static final int NONE = -1;

    private static final int LAST_TICK = 399;
    // The end of a STEP that does not end by the last TICK.
    private static final int NEVER = 400;
    private static final int GROUPS = 8;
    private static final int ALL_RIGHTS = 255;
    private static final int MAX_TABLES = 6;
    private static final int MAX_ROWS = 40;
    private static final int MAX_READERS = 6;
    private static final int MAX_HOSTS = 3;
    private static final int MAX_STEPS = 7;
    private static final int MAX_ORDERS = 5040;

    private static final int FED_BYTES = 20;
    private static final int MAX_TEXT = 2000;
    private static final int MAX_TOKENS = 400;
    private static final int MAX_NAME = 8;
    private static final int MAX_DIGITS = 4;
    private static final int MAX_INT = 9999;
    private static final int MAX_NESTING = 6;
    private static final int MAX_TAKES = 20;
    private static final int MAX_WEIGHT = 100;
    // Above what all LATES can come to, each times its weight.
    private static final int NO_BOUND = MAX_STEPS * NEVER * MAX_WEIGHT + 1;

    private static final int SYNTAX = 1;
    private static final int ROOM = 2;
    private static final int TWICE = 3;
    private static final int UNKNOWN = 4;
    private static final int WRONG = 5;

    // Kinds of TOKENS; a SIGN's kind is its byte. Those of an E serve as the works of its code too.
    private static final int NAME = 256;
    private static final int INT = 257;
    private static final int END = 258;
    private static final int BAD = 259;
    private static final int PART = 260;
    private static final int REPORT = 261;
    private static final int TAKES = 262;
    private static final int DUE = 263;
    private static final int WEIGHT = 264;
    private static final int SUM = 265;
    private static final int COUNT = 266;
    private static final int MOST = 267;
    private static final int MAX = 268;

    // A word of at most eight bytes fits a long, so that words are told apart as numbers are.
    private static final long WORD_PART = 0x70617274L;
    private static final long WORD_REPORT = 0x7265706f7274L;
    private static final long WORD_TAKES = 0x74616b6573L;
    private static final long WORD_DUE = 0x647565L;
    private static final long WORD_WEIGHT = 0x776569676874L;
    private static final long WORD_SUM = 0x73756dL;
    private static final long WORD_COUNT = 0x636f756e74L;
    private static final long WORD_MOST = 0x6d6f7374L;
    private static final long WORD_MAX = 0x6d6178L;

    private final Tape tape;
    private final Tokens tokens;
    private final Parser parser;
    private final Script script;
    private final Tables tables;
    private final Post post;
    private final Work work;
    private final Forecast forecast;

    public DawnHouse() {
        tape = new Tape();
        tokens = new Tokens(tape);
        parser = new Parser(tokens, new Script());
        script = new Script();
        tables = new Tables();
        Values values = new Values(script, tables);
        post = new Post(values);
        work = new Work(script, tables, values, post);
        forecast = new Forecast(script, tables, work);
    }

    public int feed(int a, int b, int c, int d, int e) {
        if (tape.length > MAX_TEXT - FED_BYTES) {
            return NONE;
        }
        tape.addWord(a);
        tape.addWord(b);
        tape.addWord(c);
        tape.addWord(d);
        tape.addWord(e);
        return tape.length;
    }

    public int back(int n) {
        if (n < 0 || n > tape.length) {
            return NONE;
        }
        tape.length -= n;
        return tape.length;
    }

    public int read() {
        tokens.scanTape();
        parser.parseText();
        tape.length = 0;
        if (parser.fault == 0) {
            script.copyOf(parser.draft);
            work.startAnew();
            post.startAnew();
        }
        return parser.fault;
    }

    public int place() {
        return parser.faultPlace;
    }

    public boolean span(int table, int a, int b) {
        if (!isBelow(table, MAX_TABLES) || a < 0 || a > b || b > LAST_TICK) {
            return false;
        }
        tables.spanBegin[table] = a;
        tables.spanEnd[table] = b;
        return true;
    }

    public int row(int table, int group, int v) {
        if (!isBelow(table, MAX_TABLES) || !isBelow(group, GROUPS) || tables.loadedRows[table] >= MAX_ROWS) {
            return NONE;
        }
        return tables.load(table, group, v);
    }

    public int land(int table) {
        if (!isBelow(table, MAX_TABLES)) {
            return NONE;
        }
        work.undo(table);
        return tables.bringIn(table);
    }

    public int reader(int rights) {
        if (post.readers >= MAX_READERS || rights < 0 || rights > ALL_RIGHTS) {
            return NONE;
        }
        return post.addReader(rights);
    }

    public boolean rights(int reader, int rights) {
        if (!post.hasReader(reader) || rights < 0 || rights > ALL_RIGHTS) {
            return false;
        }
        post.rights[reader] = rights;
        return true;
    }

    public boolean hold(int reader, boolean held) {
        if (!post.hasReader(reader) || post.isHeld(reader) == held) {
            return false;
        }
        post.heldBits ^= 1 << reader;
        if (!held) {
            post.catchUp(reader, work.doneBits);
        }
        return true;
    }

    public boolean reads(int step, int reader) {
        if (!script.hasReport(step) || !post.hasReader(reader) || post.isRead(step, reader)) {
            return false;
        }
        post.readBy[step] |= 1 << reader;
        return true;
    }

    public boolean hosts(int n) {
        if (n < 1 || n > MAX_HOSTS || work.wayBits != 0) {
            return false;
        }
        work.hosts = n;
        return true;
    }

    public int tick() {
        if (work.now >= LAST_TICK) {
            return NONE;
        }
        work.passTick();
        return work.now;
    }

    public int plan() {
        return forecast.findBest();
    }

    public int order(int i) {
        return script.hasStep(i) ? work.order[i] : NONE;
    }

    public int foreseen(int step) {
        return script.hasStep(step) ? forecast.endOf(step) : NONE;
    }

    public int sure(int step) {
        if (!script.hasReport(step)) {
            return NONE;
        }
        return forecast.soonestEndOf(step) > script.due[step] ? 1 : 0;
    }

    public int step(int k, int what) {
        if (!script.hasStep(k)) {
            return NONE;
        }
        switch (what) {
            case 0:
                return script.isReport(k) ? 1 : 0;
            case 1:
                return script.takes[k];
            case 2:
                return script.due[k];
            case 3:
                return script.weight[k];
            case 4:
                return script.allTables[k];
            case 5:
                return work.isDone(k) ? 2 : work.isUnderWay(k) ? 1 : 0;
            case 6:
                return work.isDone(k) ? work.doneAt[k] : NONE;
            case 7:
                return work.timesDone[k];
            case 8:
                return work.isUnderWay(k) ? work.worked[k] : 0;
            default:
                return NONE;
        }
    }

    public long value(int step, int group) {
        if (!script.hasStep(step) || !isBelow(group, GROUPS) || !work.isDone(step)) {
            return 0;
        }
        return work.values.results[step * GROUPS + group];
    }

    public long sent(int step, int reader, int group) {
        if (!script.hasReport(step) || !post.hasReader(reader)) {
            return 0;
        }
        if (group == NONE) {
            return post.sumOfLast(step, reader);
        }
        return isBelow(group, GROUPS) ? post.last[Post.cell(step, reader) * GROUPS + group] : 0;
    }

    public int marks(int step, int reader) {
        if (!script.hasReport(step) || !post.hasReader(reader) || !post.isRead(step, reader)) {
            return NONE;
        }
        return post.marksOf[Post.cell(step, reader)];
    }

    public int table(int t, int what) {
        if (!isBelow(t, MAX_TABLES)) {
            return NONE;
        }
        switch (what) {
            case 0:
                return tables.states[t];
            case 1:
                return tables.standingRows[t];
            case 2:
                return tables.loadedRows[t];
            case 3:
                return tables.spanBegin[t];
            case 4:
                return tables.spanEnd[t];
            default:
                return NONE;
        }
    }

    public int count(int what) {
        switch (what) {
            case 0:
                return script.steps;
            case 1:
                return post.readers;
            case 2:
                return work.now;
            case 3:
                return work.hosts;
            case 4:
                return Integer.bitCount(work.wayBits);
            case 5:
                return Integer.bitCount(work.doneBits);
            case 6:
                return post.allMarks;
            case 7:
                return tape.length;
            default:
                return NONE;
        }
    }

    private static boolean isBelow(int i, int bound) {
        return i >= 0 && i < bound;
    }

    /** The bytes that were fed and are not read yet. */
    private static final class Tape {
        private final byte[] bytes = new byte[MAX_TEXT];
        int length = 0;

        void addWord(int word) {
            for (int shift = 24; shift >= 0; shift -= 8) {
                if (length < MAX_TEXT) {
                    bytes[length] = (byte) (word >> shift);
                    length++;
                }
            }
        }

        int byteAt(int i) {
            return isBelow(i, length) && i < MAX_TEXT ? bytes[i] & 255 : NONE;
        }
    }

    /** The TOKENS of the tape up to its end, to what is no TOKEN, or to the one that is too many. */
    private static final class Tokens {
        final int[] kinds = new int[MAX_TOKENS + 1];
        final int[] places = new int[MAX_TOKENS + 1];
        // A NAME's bytes, or what an INT is.
        final long[] amounts = new long[MAX_TOKENS + 1];
        private final Tape tape;
        private int next;
        private long amount;

        Tokens(Tape tape) {
            this.tape = tape;
        }

        void scanTape() {
            next = 0;
            boolean more = true;
            for (int i = 0; i <= MAX_TOKENS && more; i++) {
                skipBlanks();
                places[i] = next;
                kinds[i] = scanToken();
                amounts[i] = amount;
                more = kinds[i] != END && kinds[i] != BAD;
            }
        }

        private void skipBlanks() {
            while (next < tape.length && isBlank(tape.byteAt(next))) {
                next++;
            }
        }

        private int scanToken() {
            amount = 0;
            int c = tape.byteAt(next);
            if (c == NONE) {
                return END;
            }
            if (isLetter(c)) {
                return scanWord();
            }
            if (isDigit(c)) {
                return scanNumber();
            }
            next++;
            return isSign(c) ? c : BAD;
        }

        private int scanWord() {
            int from = next;
            while (next < tape.length && (isLetter(tape.byteAt(next)) || isDigit(tape.byteAt(next)))) {
                amount = amount << 8 | tape.byteAt(next);
                next++;
            }
            return next - from > MAX_NAME ? BAD : kindOfWord(amount);
        }

        private int scanNumber() {
            int from = next;
            while (next < tape.length && isDigit(tape.byteAt(next))) {
                amount = amount * 10 + tape.byteAt(next) - '0';
                next++;
            }
            return next - from > MAX_DIGITS ? BAD : INT;
        }

        private static int kindOfWord(long word) {
            if (word == WORD_PART) {
                return PART;
            }
            if (word == WORD_REPORT) {
                return REPORT;
            }
            if (word == WORD_TAKES) {
                return TAKES;
            }
            if (word == WORD_DUE) {
                return DUE;
            }
            if (word == WORD_WEIGHT) {
                return WEIGHT;
            }
            if (word == WORD_SUM) {
                return SUM;
            }
            if (word == WORD_COUNT) {
                return COUNT;
            }
            if (word == WORD_MOST) {
                return MOST;
            }
            return word == WORD_MAX ? MAX : NAME;
        }

        private static boolean isBlank(int c) {
            return c == 9 || c == 10 || c == 13 || c == 32;
        }

        private static boolean isLetter(int c) {
            return c >= 'a' && c <= 'z';
        }

        private static boolean isDigit(int c) {
            return c >= '0' && c <= '9';
        }

        private static boolean isSign(int c) {
            return c == ';' || c == ',' || c == '=' || c == '+' || c == '-' || c == '*' || c == '(' || c == ')';
        }
    }

    /** STEPS as a text tells them; the E of each is code for a stack, all codes behind one another. */
    private static final class Script {
        int steps = 0;
        int reportBits = 0;
        final long[] names = new long[MAX_STEPS];
        final int[] takes = new int[MAX_STEPS];
        final int[] due = new int[MAX_STEPS];
        final int[] weight = new int[MAX_STEPS];
        final int[] ownTables = new int[MAX_STEPS];
        final int[] ownParts = new int[MAX_STEPS];
        final int[] allTables = new int[MAX_STEPS];
        final int[] codeEnds = new int[MAX_STEPS];
        final int[] works = new int[MAX_TOKENS];
        final int[] operands = new int[MAX_TOKENS];
        private int codeLength = 0;

        boolean hasStep(int k) {
            return k >= 0 && k < steps && k < MAX_STEPS;
        }

        boolean hasReport(int k) {
            return hasStep(k) && isReport(k);
        }

        boolean isReport(int k) {
            return (reportBits >> k & 1) != 0;
        }

        int codeBegin(int k) {
            return k > 0 && k < MAX_STEPS ? codeEnds[k - 1] : 0;
        }

        boolean tells(long name) {
            for (int k = 0; k < steps; k++) {
                if (names[k] == name) {
                    return true;
                }
            }
            return false;
        }

        int partNamed(long name) {
            for (int k = 0; k < steps; k++) {
                if (names[k] == name && (reportBits >> k & 1) == 0) {
                    return k;
                }
            }
            return NONE;
        }

        void clear() {
            steps = 0;
            reportBits = 0;
            codeLength = 0;
        }

        // The STEP that is being told is not one of the steps before its end: its own NAME is not told ahead.
        void beginStep(boolean report) {
            if (steps < MAX_STEPS) {
                reportBits |= (report ? 1 : 0) << steps;
                due[steps] = 0;
                weight[steps] = 0;
                ownTables[steps] = 0;
                ownParts[steps] = 0;
                allTables[steps] = 0;
            }
        }

        void endStep() {
            if (steps < MAX_STEPS) {
                codeEnds[steps] = codeLength;
                steps++;
            }
        }

        void addTable(int work, int table) {
            if (steps < MAX_STEPS) {
                ownTables[steps] |= 1 << table;
                allTables[steps] |= 1 << table;
                addCode(work, table);
            }
        }

        void addPart(int part) {
            if (part >= 0 && part < steps && steps < MAX_STEPS) {
                ownParts[steps] |= 1 << part;
                allTables[steps] |= allTables[part];
                addCode(NAME, part);
            }
        }

        void addCode(int work, int operand) {
            if (codeLength < MAX_TOKENS) {
                works[codeLength] = work;
                operands[codeLength] = operand;
                codeLength++;
            }
        }

        void copyOf(Script other) {
            steps = other.steps;
            reportBits = other.reportBits;
            codeLength = other.codeLength;
            System.arraycopy(other.names, 0, names, 0, MAX_STEPS);
            System.arraycopy(other.takes, 0, takes, 0, MAX_STEPS);
            System.arraycopy(other.due, 0, due, 0, MAX_STEPS);
            System.arraycopy(other.weight, 0, weight, 0, MAX_STEPS);
            System.arraycopy(other.ownTables, 0, ownTables, 0, MAX_STEPS);
            System.arraycopy(other.ownParts, 0, ownParts, 0, MAX_STEPS);
            System.arraycopy(other.allTables, 0, allTables, 0, MAX_STEPS);
            System.arraycopy(other.codeEnds, 0, codeEnds, 0, MAX_STEPS);
            System.arraycopy(other.works, 0, works, 0, MAX_TOKENS);
            System.arraycopy(other.operands, 0, operands, 0, MAX_TOKENS);
        }
    }

    /** Reads the TOKENS into a draft, so that a text with a FAULT leaves the house's STEPS alone. */
    private static final class Parser {
        final Script draft;
        int fault = 0;
        int faultPlace = NONE;
        private final Tokens tokens;
        private int at;
        // FAULTS 3 to 5 count only in a text without 1 and 2, whose places may be further on.
        private int senseFault;
        private int sensePlace;

        Parser(Tokens tokens, Script draft) {
            this.tokens = tokens;
            this.draft = draft;
        }

        void parseText() {
            draft.clear();
            at = 0;
            fault = 0;
            faultPlace = NONE;
            senseFault = 0;
            sensePlace = NONE;
            for (int n = 0; n <= MAX_STEPS && fault == 0 && peek() != END; n++) {
                parseStep();
            }
            if (fault == 0) {
                fault = senseFault;
                faultPlace = sensePlace;
            }
        }

        private void parseStep() {
            int kind = peek();
            if (kind != PART && kind != REPORT) {
                fail(SYNTAX);
            } else if (draft.steps >= MAX_STEPS) {
                fail(ROOM);
            } else {
                draft.beginStep(kind == REPORT);
                accept(kind);
                parseHead(draft.steps, kind == REPORT);
                accept('=');
                parseSum(0);
                accept(';');
                draft.endStep();
            }
        }

        private void parseHead(int k, boolean report) {
            if (!isBelow(k, MAX_STEPS)) {
                return;
            }
            draft.names[k] = acceptNewName();
            accept(TAKES);
            draft.takes[k] = acceptInt(1, MAX_TAKES);
            if (report) {
                accept(DUE);
                draft.due[k] = acceptInt(0, LAST_TICK);
                accept(WEIGHT);
                draft.weight[k] = acceptInt(0, MAX_WEIGHT);
            }
        }

        private void parseSum(int depth) {
            parseProduct(depth);
            for (int n = 0; n < MAX_TOKENS && (peek() == '+' || peek() == '-'); n++) {
                int sign = peek();
                accept(sign);
                parseProduct(depth);
                draft.addCode(sign, 0);
            }
        }

        private void parseProduct(int depth) {
            parseUnit(depth);
            for (int n = 0; n < MAX_TOKENS && peek() == '*'; n++) {
                accept('*');
                parseUnit(depth);
                draft.addCode('*', 0);
            }
        }

        private void parseUnit(int depth) {
            int kind = peek();
            switch (kind) {
                case INT:
                    draft.addCode(INT, acceptInt(0, MAX_INT));
                    break;
                case NAME:
                    draft.addPart(acceptPart());
                    break;
                case SUM:
                case COUNT:
                case MOST:
                    accept(kind);
                    acceptOpening(depth);
                    draft.addTable(kind, acceptInt(0, MAX_TABLES - 1));
                    accept(')');
                    break;
                case MAX:
                    accept(MAX);
                    acceptOpening(depth);
                    parseInside(depth);
                    accept(',');
                    parseInside(depth);
                    accept(')');
                    draft.addCode(MAX, 0);
                    break;
                case '(':
                    acceptOpening(depth);
                    parseInside(depth);
                    accept(')');
                    break;
                default:
                    fail(SYNTAX);
                    break;
            }
        }

        private void parseInside(int depth) {
            if (fault == 0 && depth < MAX_NESTING) {
                parseSum(depth + 1);
            }
        }

        private void acceptOpening(int depth) {
            if (peek() == '(' && depth >= MAX_NESTING) {
                fail(ROOM);
            }
            accept('(');
        }

        private int acceptPart() {
            int part = draft.partNamed(tokens.amounts[at]);
            if (part == NONE) {
                noteSense(UNKNOWN);
            }
            accept(NAME);
            return part;
        }

        private long acceptNewName() {
            long name = tokens.amounts[at];
            if (peek() == NAME && draft.tells(name)) {
                noteSense(TWICE);
            }
            accept(NAME);
            return name;
        }

        private int acceptInt(int least, int most) {
            long number = tokens.amounts[at];
            boolean fits = number >= least && number <= most;
            if (peek() == INT && !fits) {
                noteSense(WRONG);
            }
            accept(INT);
            return fits ? (int) number : least;
        }

        private int peek() {
            return fault == 0 ? tokens.kinds[at] : BAD;
        }

        private void accept(int kind) {
            if (fault != 0) {
                return;
            }
            if (tokens.kinds[at] == kind && at < MAX_TOKENS) {
                at++;
            } else {
                fault = tokens.kinds[at] == kind ? ROOM : SYNTAX;
                faultPlace = tokens.places[at];
            }
        }

        private void fail(int kind) {
            if (fault == 0) {
                fault = kind;
                faultPlace = tokens.places[at];
            }
        }

        private void noteSense(int kind) {
            if (senseFault == 0) {
                senseFault = kind;
                sensePlace = tokens.places[at];
            }
        }
    }

    /** sum, count and most of ROWS by TABLE and GROUP: all that an E asks of them, so no ROW is kept. */
    private static final class Figures {
        final long[] sums = new long[MAX_TABLES * GROUPS];
        final long[] counts = new long[MAX_TABLES * GROUPS];
        final long[] mosts = new long[MAX_TABLES * GROUPS];

        void add(int table, int group, int v) {
            if (isBelow(table, MAX_TABLES) && isBelow(group, GROUPS)) {
                int cell = table * GROUPS + group;
                sums[cell] += v;
                mosts[cell] = counts[cell] == 0 ? v : Math.max(mosts[cell], v);
                counts[cell]++;
            }
        }

        // What moves is gone there: the next ROWS are loaded for another landing.
        void moveFrom(Figures other, int table) {
            if (isBelow(table, MAX_TABLES)) {
                for (int cell = table * GROUPS; cell < (table + 1) * GROUPS; cell++) {
                    sums[cell] = other.sums[cell];
                    counts[cell] = other.counts[cell];
                    mosts[cell] = other.mosts[cell];
                    other.sums[cell] = 0;
                    other.counts[cell] = 0;
                    other.mosts[cell] = 0;
                }
            }
        }
    }

    private static final class Tables {
        final int[] states = new int[MAX_TABLES];
        final int[] standingRows = new int[MAX_TABLES];
        final int[] loadedRows = new int[MAX_TABLES];
        final int[] spanBegin = new int[MAX_TABLES];
        final int[] spanEnd = new int[MAX_TABLES];
        int landedBits = 0;
        final Figures standing = new Figures();
        private final Figures loaded = new Figures();

        int load(int table, int group, int v) {
            loaded.add(table, group, v);
            loadedRows[table]++;
            return loadedRows[table];
        }

        int bringIn(int table) {
            standing.moveFrom(loaded, table);
            standingRows[table] = loadedRows[table];
            loadedRows[table] = 0;
            landedBits |= 1 << table;
            states[table]++;
            return states[table];
        }
    }

    /** What STEPS are, by STEP and GROUP, and the stack on which an E is worked. */
    private static final class Values {
        final long[] results = new long[MAX_STEPS * GROUPS];
        private final Script script;
        private final Tables tables;
        private final long[] stack = new long[MAX_TOKENS];
        private int height;

        Values(Script script, Tables tables) {
            this.script = script;
            this.tables = tables;
        }

        void settle(int k) {
            if (!script.hasStep(k)) {
                return;
            }
            int end = Math.min(script.codeEnds[k], MAX_TOKENS);
            for (int group = 0; group < GROUPS; group++) {
                height = 0;
                for (int i = script.codeBegin(k); i < end; i++) {
                    perform(script.works[i], script.operands[i], group);
                }
                results[k * GROUPS + group] = pop();
            }
        }

        private void perform(int work, int operand, int group) {
            switch (work) {
                case INT:
                    push(operand);
                    break;
                case NAME:
                    push(script.hasStep(operand) ? results[operand * GROUPS + group] : 0);
                    break;
                case SUM:
                case COUNT:
                case MOST:
                    push(figure(work, operand, group));
                    break;
                default:
                    long right = pop();
                    long left = pop();
                    push(joined(work, left, right));
                    break;
            }
        }

        private long figure(int work, int table, int group) {
            if (!isBelow(table, MAX_TABLES)) {
                return 0;
            }
            int cell = table * GROUPS + group;
            if (work == SUM) {
                return tables.standing.sums[cell];
            }
            return work == COUNT ? tables.standing.counts[cell] : tables.standing.mosts[cell];
        }

        private static long joined(int work, long left, long right) {
            switch (work) {
                case '+':
                    return left + right;
                case '-':
                    return left - right;
                case '*':
                    return left * right;
                default:
                    return Math.max(left, right);
            }
        }

        private void push(long v) {
            if (height < MAX_TOKENS) {
                stack[height] = v;
                height++;
            }
        }

        private long pop() {
            if (height <= 0) {
                return 0;
            }
            height--;
            return stack[height];
        }
    }

    /** READERS, and what went to them. READERS of a STEP are bits. */
    private static final class Post {
        int readers = 0;
        int heldBits = 0;
        int allMarks = 0;
        final int[] rights = new int[MAX_READERS];
        final int[] readBy = new int[MAX_STEPS];
        final int[] marksOf = new int[MAX_STEPS * MAX_READERS];
        final long[] last = new long[MAX_STEPS * MAX_READERS * GROUPS];
        private final Values values;

        Post(Values values) {
            this.values = values;
        }

        static int cell(int step, int reader) {
            return step * MAX_READERS + reader;
        }

        boolean hasReader(int reader) {
            return isBelow(reader, readers) && reader < MAX_READERS;
        }

        boolean isHeld(int reader) {
            return (heldBits >> reader & 1) != 0;
        }

        boolean isRead(int step, int reader) {
            return (readBy[step] >> reader & 1) != 0;
        }

        int addReader(int itsRights) {
            int reader = readers;
            if (reader < MAX_READERS) {
                rights[reader] = itsRights;
                readers++;
            }
            return reader;
        }

        void startAnew() {
            allMarks = 0;
            for (int step = 0; step < MAX_STEPS; step++) {
                readBy[step] = 0;
            }
            for (int i = 0; i < MAX_STEPS * MAX_READERS; i++) {
                marksOf[i] = 0;
            }
            for (int i = 0; i < MAX_STEPS * MAX_READERS * GROUPS; i++) {
                last[i] = 0;
            }
        }

        void deliver(int step) {
            for (int reader = 0; reader < readers; reader++) {
                if (isRead(step, reader) && !isHeld(reader)) {
                    offer(step, reader);
                }
            }
        }

        void catchUp(int reader, int doneBits) {
            for (int step = 0; step < MAX_STEPS; step++) {
                if (isRead(step, reader) && (doneBits >> step & 1) != 0) {
                    offer(step, reader);
                }
            }
        }

        // What went last becomes what is seen now in any case: where nothing goes, the two are the same.
        private void offer(int step, int reader) {
            if (!isBelow(step, MAX_STEPS) || !isBelow(reader, MAX_READERS)) {
                return;
            }
            int cell = cell(step, reader);
            boolean goes = marksOf[cell] == 0;
            for (int group = 0; group < GROUPS; group++) {
                boolean isOpen = (rights[reader] >> group & 1) != 0;
                long seen = isOpen ? values.results[step * GROUPS + group] : 0;
                goes = goes || seen != last[cell * GROUPS + group];
                last[cell * GROUPS + group] = seen;
            }
            if (goes) {
                marksOf[cell]++;
                allMarks++;
            }
        }

        long sumOfLast(int step, int reader) {
            long sum = 0;
            if (isBelow(step, MAX_STEPS) && isBelow(reader, MAX_READERS)) {
                for (int group = 0; group < GROUPS; group++) {
                    sum += last[cell(step, reader) * GROUPS + group];
                }
            }
            return sum;
        }
    }

    /** TICK, HOSTS, THE ORDER, and how far each STEP is. STEPS that are DONE or UNDER WAY are bits. */
    private static final class Work {
        int now = 0;
        int hosts = 1;
        int doneBits = 0;
        int wayBits = 0;
        final int[] atHost = {NONE, NONE, NONE};
        final int[] order = new int[MAX_STEPS];
        final int[] doneAt = new int[MAX_STEPS];
        final int[] timesDone = new int[MAX_STEPS];
        final int[] worked = new int[MAX_STEPS];
        final Values values;
        private final Script script;
        private final Tables tables;
        private final Post post;

        Work(Script script, Tables tables, Values values, Post post) {
            this.script = script;
            this.tables = tables;
            this.values = values;
            this.post = post;
        }

        void startAnew() {
            doneBits = 0;
            wayBits = 0;
            for (int host = 0; host < MAX_HOSTS; host++) {
                atHost[host] = NONE;
            }
            for (int k = 0; k < MAX_STEPS; k++) {
                order[k] = k;
                timesDone[k] = 0;
            }
        }

        boolean isDone(int k) {
            return (doneBits >> k & 1) != 0;
        }

        boolean isUnderWay(int k) {
            return (wayBits >> k & 1) != 0;
        }

        void undo(int table) {
            int lost = 0;
            for (int k = 0; k < script.steps; k++) {
                if ((script.allTables[k] >> table & 1) != 0) {
                    lost |= 1 << k;
                }
            }
            doneBits &= ~lost;
            wayBits &= ~lost;
            for (int host = 0; host < MAX_HOSTS; host++) {
                if (atHost[host] != NONE && !isUnderWay(atHost[host])) {
                    atHost[host] = NONE;
                }
            }
        }

        void passTick() {
            now++;
            for (int host = 0; host < hosts; host++) {
                if (atHost[host] == NONE) {
                    beginAt(host);
                }
            }
            for (int host = 0; host < hosts; host++) {
                workAt(host);
            }
        }

        private void beginAt(int host) {
            int k = firstReady();
            if (script.hasStep(k)) {
                atHost[host] = k;
                wayBits |= 1 << k;
                worked[k] = 0;
            }
        }

        private int firstReady() {
            for (int i = 0; i < script.steps; i++) {
                if (isReady(order[i])) {
                    return order[i];
                }
            }
            return NONE;
        }

        private boolean isReady(int k) {
            return script.hasStep(k) && !isDone(k) && !isUnderWay(k)
                && (script.ownTables[k] & ~tables.landedBits) == 0
                && (script.ownParts[k] & ~doneBits) == 0;
        }

        private void workAt(int host) {
            int k = atHost[host];
            if (script.hasStep(k)) {
                worked[k]++;
                if (worked[k] >= script.takes[k]) {
                    atHost[host] = NONE;
                    finish(k);
                }
            }
        }

        private void finish(int k) {
            wayBits &= ~(1 << k);
            doneBits |= 1 << k;
            doneAt[k] = now;
            timesDone[k]++;
            values.settle(k);
            if (script.isReport(k)) {
                post.deliver(k);
            }
        }
    }

    /** Runs ahead of the house, without a change to it, from one TICK at which a STEP may begin to the next. */
    private static final class Forecast {
        private final Script script;
        private final Tables tables;
        private final Work work;
        // The TICK from which on a STEP's own TABLES are there.
        private final int[] opensAt = new int[MAX_STEPS];
        // Ends with a HOST for each STEP: no ORDER makes one end sooner.
        private final int[] soonest = new int[MAX_STEPS];
        private final int[] ends = new int[MAX_STEPS];
        private final int[] freeAt = new int[MAX_HOSTS];
        // STEPS that neither are DONE nor UNDER WAY, in the order that is tried: others have no say in it.
        private final int[] queue = new int[MAX_STEPS];
        private final int[] best = new int[MAX_STEPS];
        private int waiting;
        private int begunBits;
        private int endedBits;
        // What the LATES come to at least: in any order, and with the STEPS that a run has begun so far.
        private int floor;
        private int cost;
        // So many STEPS at the queue's head decided all that was begun so far; those behind had no say.
        private int decisive;

        Forecast(Script script, Tables tables, Work work) {
            this.script = script;
            this.tables = tables;
            this.work = work;
        }

        int soonestEndOf(int step) {
            reckonSoonest(tables.spanBegin);
            return isBelow(step, MAX_STEPS) ? soonest[step] : NEVER;
        }

        int endOf(int step) {
            reckonSoonest(tables.spanEnd);
            fillQueue(work.order);
            runAhead(NO_BOUND);
            return isBelow(step, MAX_STEPS) ? ends[step] : NEVER;
        }

        // Queues are tried from the first on, so the first of alike ones stays; where none can be better, it ends.
        int findBest() {
            reckonSoonest(tables.spanEnd);
            queueByNumbers();
            int least = NO_BOUND;
            boolean more = true;
            for (int n = 0; n < MAX_ORDERS && more; n++) {
                runAhead(least);
                if (cost < least) {
                    least = cost;
                    keepBest();
                }
                more = least > floor && nextQueue();
            }
            orderByBest();
            return least;
        }

        private void reckonSoonest(int[] landings) {
            floor = 0;
            for (int k = 0; k < script.steps; k++) {
                opensAt[k] = openingOf(k, landings);
                if (work.isDone(k)) {
                    soonest[k] = work.doneAt[k];
                } else if (work.isUnderWay(k)) {
                    soonest[k] = Math.min(NEVER, work.now + script.takes[k] - work.worked[k]);
                } else {
                    soonest[k] = Math.min(NEVER, Math.max(opensAt[k], partsOpening(k)) + script.takes[k] - 1);
                }
                floor += costOf(k, soonest[k]);
            }
        }

        private int openingOf(int k, int[] landings) {
            int opening = work.now + 1;
            int missing = script.ownTables[k] & ~tables.landedBits;
            for (int table = 0; table < MAX_TABLES; table++) {
                if ((missing >> table & 1) != 0) {
                    opening = Math.max(opening, landings[table]);
                }
            }
            return opening;
        }

        private int partsOpening(int k) {
            int opening = 0;
            for (int part = 0; part < k; part++) {
                if ((script.ownParts[k] >> part & 1) != 0) {
                    opening = Math.max(opening, soonest[part] + 1);
                }
            }
            return opening;
        }

        private void queueByNumbers() {
            waiting = 0;
            for (int k = 0; k < script.steps; k++) {
                enqueue(k);
            }
        }

        private void fillQueue(int[] order) {
            waiting = 0;
            for (int i = 0; i < script.steps; i++) {
                enqueue(order[i]);
            }
        }

        private void enqueue(int k) {
            if (script.hasStep(k) && isWaiting(k) && waiting < MAX_STEPS) {
                queue[waiting] = k;
                waiting++;
            }
        }

        private boolean isWaiting(int k) {
            return !work.isDone(k) && !work.isUnderWay(k);
        }

        private int costOf(int k, int end) {
            return Math.max(0, end - script.due[k]) * script.weight[k];
        }

        // Once the cost is not below the bound this queue is no better, and the rest of its run does not matter.
        private void runAhead(int bound) {
            startRun();
            for (int t = work.now + 1; t <= LAST_TICK && isOpen(bound); t = Math.max(t + 1, nextChange(t))) {
                noteEnded(t);
                for (int host = 0; host < work.hosts && isOpen(bound); host++) {
                    if (freeAt[host] <= t) {
                        beginFirst(host, t);
                    }
                }
            }
            for (int i = 0; i < waiting; i++) {
                if ((begunBits >> queue[i] & 1) == 0) {
                    setEnd(queue[i], NEVER);
                }
            }
        }

        private boolean isOpen(int bound) {
            return cost < bound && Integer.bitCount(begunBits) < waiting;
        }

        private void startRun() {
            cost = floor;
            decisive = 0;
            begunBits = 0;
            for (int k = 0; k < script.steps; k++) {
                ends[k] = isWaiting(k) ? NEVER : soonest[k];
            }
            for (int host = 0; host < MAX_HOSTS; host++) {
                int k = work.atHost[host];
                freeAt[host] = script.hasStep(k) ? soonest[k] + 1 : work.now + 1;
            }
        }

        private void noteEnded(int t) {
            endedBits = 0;
            for (int k = 0; k < script.steps; k++) {
                if (ends[k] < t) {
                    endedBits |= 1 << k;
                }
            }
        }

        private int nextChange(int t) {
            int next = LAST_TICK + 1;
            for (int host = 0; host < work.hosts; host++) {
                if (freeAt[host] > t) {
                    next = Math.min(next, freeAt[host]);
                }
            }
            for (int i = 0; i < waiting; i++) {
                if (opensAt[queue[i]] > t) {
                    next = Math.min(next, opensAt[queue[i]]);
                }
            }
            return next;
        }

        private void beginFirst(int host, int t) {
            int first = NONE;
            for (int i = 0; i < waiting; i++) {
                if (isReady(queue[i], t)) {
                    if (first != NONE) {
                        decisive = Math.max(decisive, first + 1);
                        break;
                    }
                    first = i;
                }
            }
            if (first != NONE) {
                int k = queue[first];
                begunBits |= 1 << k;
                setEnd(k, Math.min(NEVER, t + script.takes[k] - 1));
                freeAt[host] = ends[k] + 1;
            }
        }

        private boolean isReady(int k, int t) {
            return (begunBits >> k & 1) == 0 && opensAt[k] <= t && (script.ownParts[k] & ~endedBits) == 0;
        }

        private void setEnd(int k, int end) {
            ends[k] = end;
            cost += costOf(k, end) - costOf(k, soonest[k]);
        }

        private void keepBest() {
            System.arraycopy(queue, 0, best, 0, MAX_STEPS);
        }

        // The next queue with another head: as long as the decisive head is the same, so is the run.
        private boolean nextQueue() {
            for (int i = decisive - 1; i >= 0; i--) {
                int j = leastAbove(i);
                if (j != NONE) {
                    int k = queue[i];
                    queue[i] = queue[j];
                    queue[j] = k;
                    sortBehind(i);
                    return true;
                }
            }
            return false;
        }

        private int leastAbove(int i) {
            int found = NONE;
            for (int j = i + 1; j < waiting; j++) {
                if (queue[j] > queue[i] && (found == NONE || queue[j] < queue[found])) {
                    found = j;
                }
            }
            return found;
        }

        private void sortBehind(int i) {
            for (int a = i + 1; a < waiting; a++) {
                for (int b = a + 1; b < waiting; b++) {
                    if (queue[b] < queue[a]) {
                        int k = queue[a];
                        queue[a] = queue[b];
                        queue[b] = k;
                    }
                }
            }
        }

        // STEPS that have no say go in by numbers, each as soon as it is below the next of the queue.
        private void orderByBest() {
            int i = 0;
            int idle = nextIdle(0);
            for (int n = 0; n < script.steps; n++) {
                if (i >= waiting || idle < best[i]) {
                    work.order[n] = idle;
                    idle = nextIdle(idle + 1);
                } else {
                    work.order[n] = best[i];
                    i++;
                }
            }
        }

        private int nextIdle(int from) {
            for (int k = from; k < script.steps; k++) {
                if (!isWaiting(k)) {
                    return k;
                }
            }
            return MAX_STEPS;
        }
    }
}
