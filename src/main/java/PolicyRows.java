import java.util.NoSuchElementException;

/**
 * A row-policy query filter: roles, rows, policies and views told by a text, queries of users that
 * are put into an order and run, writes that policies check, and what can be worked out from them.
 */
public final class PolicyRows {
    public static final int NONE = -1;

    private static final int TAPE_LIMIT = 700;
    private static final int ROLE_LIMIT = 6;
    private static final int COLUMN_LIMIT = 4;
    private static final int COLUMNS_UNTOLD = 2;
    private static final int ROW_LIMIT = 16;
    private static final int POLICY_LIMIT = 8;
    private static final int VIEW_LIMIT = 3;
    private static final int CONDITION_LIMIT = 5;
    private static final int ACT_LIMIT = 40;
    private static final int SEEN_LIMIT = 8;
    private static final int YEAR_LIMIT = 60;
    private static final int CELL_LIMIT = 99;
    private static final int TRIED_LIMIT = 9;
    private static final int TENTHS = 10;

    private static final int READ = 0;
    private static final int INSERT = 1;
    private static final int UPDATE = 2;
    private static final int DELETE = 3;
    private static final int ANY = 4;

    private static final boolean BY_USING = false;
    private static final boolean BY_CHECK = true;

    private static final int FAULT_MISPLACED = 1;
    private static final int FAULT_TOO_MUCH = 2;
    private static final int FAULT_UNKNOWN = 3;

    private static final int REFUSED_TEXTS = 0;
    private static final int REFUSED_ACTS = 1;
    private static final int REFUSED_SIGHTS = 2;

    private final Tape tape;
    private final Rules conditions;
    private final TextReader reader;
    private final Judge judge;
    private final Writer writer;
    private final Insight insight;
    private final Plan plan;
    private final int[] refused;
    private Book book;
    private Book spareBook;
    private State state;
    private State spareState;
    private final State trial;
    private final State kept;
    private boolean isKept;
    private int faultPlace;

    public PolicyRows() {
        tape = new Tape();
        conditions = new Rules(CONDITION_LIMIT);
        book = new Book();
        spareBook = new Book();
        state = new State();
        spareState = new State();
        reader = new TextReader(tape, book, state);
        trial = new State();
        kept = new State();
        judge = new Judge(book, state);
        writer = new Writer(judge);
        insight = new Insight(judge);
        plan = new Plan();
        refused = new int[3];
        isKept = false;
        faultPlace = NONE;
    }

    public int feed(int a, int b, int c, int d, int e) {
        if (tape.size + 20 > TAPE_LIMIT) {
            return NONE;
        }
        tape.put(a);
        tape.put(b);
        tape.put(c);
        tape.put(d);
        tape.put(e);
        return tape.size;
    }

    public int tell(int n) throws IllegalArgumentException {
        needBytes(n);
        boolean isGood = reader.readText(n, spareBook, spareState);
        endReading(isGood);
        if (!isGood) {
            return tape.fault;
        }
        Book oldBook = book;
        book = spareBook;
        spareBook = oldBook;
        State oldState = state;
        state = spareState;
        spareState = oldState;
        plan.isThere = false;
        isKept = false;
        return 0;
    }

    public int query(int user, int target, int n) throws NoSuchElementException, IllegalArgumentException {
        needRole(user);
        if (target != NONE) {
            needView(target);
        }
        needBytes(n);
        boolean isGood = reader.readConditions(n, book, conditions);
        endReading(isGood);
        if (!isGood) {
            return tape.fault;
        }
        judge.sit(book, state);
        plan.lay(judge, conditions, user, target);
        plan.order();
        plan.pass(judge, conditions);
        return 0;
    }

    public int fault() {
        return faultPlace;
    }

    public int count(int what) throws NoSuchElementException {
        judge.sit(book, state);
        switch (what) {
            case 0:
                return book.roles;
            case 1:
                return book.columns;
            case 2:
                return state.rows;
            case 3:
                return book.policies;
            case 4:
                return book.views;
            case 5:
                return insight.sights();
            case 6:
                return insight.needless();
            case 7:
                return state.acts;
            case 8:
                return state.seen;
            case 9:
                return tape.size;
            case 10:
            case 11:
            case 12:
                return refused[what - 10];
            default:
                throw new NoSuchElementException();
        }
    }

    public int role(int role, int what) throws NoSuchElementException {
        needRole(role);
        judge.sit(book, state);
        switch (what) {
            case 0:
                return state.given[role];
            case 1:
                return judge.has[role];
            case 2:
                return judge.rowsRead(role);
            case 3:
                judge.become(role);
                return judge.applying(state.on, READ);
            default:
                throw new NoSuchElementException();
        }
    }

    public int cell(int row, int column) throws NoSuchElementException {
        needRow(row);
        needColumn(column);
        return state.numberAt(row, column);
    }

    public int policy(int policy, int what) throws NoSuchElementException {
        needPolicy(policy);
        switch (what) {
            case 0:
                return bit(book.restricting, policy);
            case 1:
                return book.policyRole[policy];
            case 2:
                return book.command[policy];
            case 3:
                return bit(state.on, policy);
            case 4:
                return book.rules.costOf(book.using[policy]);
            case 5:
                return book.rules.costOf(book.check[policy]);
            case 6:
                judge.sit(book, state);
                return insight.weight(policy);
            default:
                throw new NoSuchElementException();
        }
    }

    public int view(int view, int what) throws NoSuchElementException {
        needView(view);
        switch (what) {
            case 0:
                return book.owner[view];
            case 1:
                return bit(book.barriers, view);
            case 2:
                return book.of[view];
            case 3:
                return book.rules.costOf(book.where[view]);
            case 4:
                return book.rules.isSilent(book.where[view]) ? 1 : 0;
            default:
                throw new NoSuchElementException();
        }
    }

    public int asked(int what) throws NoSuchElementException {
        if (what < 0 || what > 7) {
            throw new NoSuchElementException();
        }
        return plan.isThere ? plan.outcome(what) : NONE;
    }

    public int step(int i, int what) throws NoSuchElementException {
        if (!plan.isThere || i < 0 || i >= plan.size || what < 0 || what > 5) {
            throw new NoSuchElementException();
        }
        return plan.steps[i].detail(what);
    }

    public int insert(int user, int a, int b, int c, int d) throws NoSuchElementException {
        needRole(user);
        judge.sit(book, state);
        judge.line[0] = a;
        judge.line[1] = b;
        judge.line[2] = c;
        judge.line[3] = d;
        if (!writer.putLine(user)) {
            refused[REFUSED_ACTS]++;
            return NONE;
        }
        return state.rows;
    }

    public int update(int user, int row, int column, int number) throws NoSuchElementException {
        needRole(user);
        needColumn(column);
        judge.sit(book, state);
        int answer = writer.change(user, row, column, number);
        if (answer == NONE) {
            refused[REFUSED_ACTS]++;
        }
        return answer;
    }

    public int delete(int user, int row) throws NoSuchElementException {
        needRole(user);
        judge.sit(book, state);
        return writer.drop(user, row) ? 1 : 0;
    }

    public boolean grant(int role, int other, boolean is) throws NoSuchElementException {
        needRole(role);
        needRole(other);
        judge.sit(book, state);
        boolean isGiven = bit(state.given[role], other) == 1;
        boolean makesRound = is && bit(judge.has[other], role) == 1;
        if (role == other || isGiven == is || makesRound) {
            refused[REFUSED_ACTS]++;
            return false;
        }
        state.noteGift(role, other);
        return true;
    }

    public boolean turn(int policy, boolean on) throws NoSuchElementException {
        needPolicy(policy);
        boolean isOn = bit(state.on, policy) == 1;
        if (isOn == on) {
            refused[REFUSED_ACTS]++;
            return false;
        }
        state.noteSwitch(policy);
        return true;
    }

    public int undo() {
        return state.takeBack() ? state.acts : NONE;
    }

    public int readers(int row) throws NoSuchElementException {
        needRow(row);
        judge.sit(book, state);
        return judge.readersOf(row);
    }

    public int toSee(int user, int row) throws NoSuchElementException {
        needRole(user);
        needRow(row);
        judge.sit(book, state);
        return insight.rolesLacking(user, row);
    }

    public int escapes(int user, int what) throws NoSuchElementException {
        needRole(user);
        needOneOf(what, 2);
        judge.sit(book, state);
        insight.search(Insight.ESCAPES, user);
        return what == 0 ? insight.found : insight.first;
    }

    public int may(int user, int row, int what) throws NoSuchElementException {
        needRole(user);
        needRow(row);
        if (what != READ && what != UPDATE && what != DELETE) {
            throw new NoSuchElementException();
        }
        judge.sit(book, state);
        judge.become(user);
        judge.take(row);
        return judge.allows(READ, BY_USING) && judge.allows(what, BY_USING) ? 1 : 0;
    }

    public int see(int user, int row, boolean is) throws NoSuchElementException {
        needRole(user);
        needRow(row);
        if (!state.noteSeen(user, row, is)) {
            refused[REFUSED_SIGHTS]++;
            return NONE;
        }
        return state.seen;
    }

    public void forget() {
        state.forgetSeen();
    }

    public int meant(int what) throws NoSuchElementException {
        needOneOf(what, 3);
        judge.sit(book, state);
        if (what == 2) {
            return insight.seenAstray() == 0 ? 1 : 0;
        }
        insight.search(Insight.MEANT, NONE);
        return what == 0 ? insight.found : insight.first;
    }

    public int look(int what) throws NoSuchElementException {
        needOneOf(what, 2);
        judge.sit(book, state);
        insight.readyToLook();
        insight.search(Insight.LOOK, NONE);
        int role = insight.roleToLookBy();
        if (what == 0) {
            return role;
        }
        return role == NONE ? 0 : insight.setsOf(role);
    }

    public int lapses(int user, int row, int tenths) throws NoSuchElementException, IllegalArgumentException {
        needRole(user);
        needRow(row);
        if (tenths < 0 || tenths > TENTHS) {
            throw new IllegalArgumentException();
        }
        judge.sit(book, state);
        return insight.chanceToRead(user, row, tenths);
    }

    public int years(int seed, int n, int what) throws NoSuchElementException, IllegalArgumentException {
        needOneOf(what, 3);
        if (n < 0 || n > YEAR_LIMIT) {
            throw new IllegalArgumentException();
        }
        trial.copyFrom(state);
        judge.sit(book, trial);
        writer.seed = seed;
        int done = 0;
        for (int year = 0; year < n && book.roles > 0; year++) {
            done += writer.passYear() ? 1 : 0;
        }
        if (what == 0) {
            return done;
        }
        return what == 1 ? trial.rows : insight.sights();
    }

    public void image() {
        kept.copyFrom(state);
        isKept = true;
    }

    public boolean restore() {
        if (!isKept) {
            return false;
        }
        state.copyFrom(kept);
        return true;
    }

    private void endReading(boolean isGood) {
        tape.size = 0;
        faultPlace = isGood ? NONE : tape.faultPlace;
        if (!isGood) {
            refused[REFUSED_TEXTS]++;
        }
    }

    private void needBytes(int n) {
        if (n < 0 || n > tape.size) {
            throw new IllegalArgumentException();
        }
    }

    private void needRole(int role) {
        needOneOf(role, book.roles);
    }

    private void needView(int view) {
        needOneOf(view, book.views);
    }

    private void needPolicy(int policy) {
        needOneOf(policy, book.policies);
    }

    private void needRow(int row) {
        needOneOf(row, state.rows);
    }

    private void needColumn(int column) {
        needOneOf(column, book.columns);
    }

    private static void needOneOf(int number, int many) {
        if (number < 0 || number >= many) {
            throw new NoSuchElementException();
        }
    }

    private static int bit(int bits, int place) {
        return bits >> place & 1;
    }

    /** The bytes that were fed, and, while a text is read, its token that comes next. */
    private static final class Tape {
        static final int END = 0;
        static final int WORD = 1;
        static final int NUMBER = 2;
        /** Also a byte that is no TOKEN: it is no sign that anyone asks for. */
        static final int SIGN = 3;
        static final int DIGIT_LIMIT = 4;

        final byte[] bytes = new byte[TAPE_LIMIT];
        int size;
        int limit;
        int kind;
        int start;
        int stop;
        int number;
        boolean isTooLong;
        /** How many tokens but parentheses were passed: what rules cost. */
        int passed;
        int fault;
        int faultPlace;

        void put(int four) {
            for (int shift = 24; shift >= 0 && size < TAPE_LIMIT; shift -= 8) {
                bytes[size] = (byte) (four >> shift);
                size++;
            }
        }

        void begin(int n) {
            limit = Math.min(n, size);
            kind = END;
            start = 0;
            stop = 0;
            fault = 0;
            faultPlace = NONE;
            advance();
        }

        void advance() {
            passed += isSign('(') || isSign(')') ? 0 : 1;
            while (stop < limit && (bytes[stop] == ' ' || bytes[stop] == '\n')) {
                stop++;
            }
            start = stop;
            if (start >= limit) {
                kind = END;
                return;
            }
            byte lead = bytes[start];
            if (lead >= 'a' && lead <= 'z') {
                kind = WORD;
                while (stop < limit && bytes[stop] >= 'a' && bytes[stop] <= 'z') {
                    stop++;
                }
            } else if (lead >= '0' && lead <= '9') {
                kind = NUMBER;
                while (stop < limit && bytes[stop] >= '0' && bytes[stop] <= '9') {
                    stop++;
                }
                workOutNumber();
            } else {
                kind = SIGN;
                stop++;
            }
        }

        private void workOutNumber() {
            isTooLong = stop - start > DIGIT_LIMIT;
            number = 0;
            for (int i = start; i < stop && !isTooLong; i++) {
                number = number * 10 + bytes[i] - '0';
            }
        }

        boolean isWord(String word) {
            if (kind != WORD || stop - start != word.length()) {
                return false;
            }
            for (int i = 0; i < word.length(); i++) {
                if (bytes[start + i] != word.charAt(i)) {
                    return false;
                }
            }
            return true;
        }

        boolean isSign(char sign) {
            return kind == SIGN && bytes[start] == sign;
        }

        /** The column that a word of one letter names; NONE for any other token. */
        int columnNamed(int columns) {
            if (kind != WORD || stop - start != 1) {
                return NONE;
            }
            int column = bytes[start] - 'a';
            return column < columns ? column : NONE;
        }

        /** Always false, so that what refuses can end with it. */
        boolean refuse(int faultKind) {
            fault = faultKind;
            faultPlace = start;
            return false;
        }

        boolean passSign(char sign) {
            if (!isSign(sign)) {
                return refuse(FAULT_MISPLACED);
            }
            advance();
            return true;
        }

        /** Whether a number stands here that is no greater than that; it is not passed. */
        boolean needNumber(int greatest, int faultOfGreater) {
            if (kind != NUMBER) {
                return refuse(FAULT_MISPLACED);
            }
            if (isTooLong) {
                return refuse(FAULT_TOO_MUCH);
            }
            return number <= greatest || refuse(faultOfGreater);
        }
    }

    /** Expressions as rows of operations, each behind what it works on, in one array. */
    private static final class Rules {
        static final int NUMBER = 0;
        static final int COLUMN = 1;
        static final int ME = 2;
        static final int HAS = 3;
        static final int LAST_OF_NONE = HAS;
        static final int PEEK = 4;
        static final int NOT = 5;
        static final int LAST_OF_ONE = NOT;
        static final int ADD = 6;
        static final int SUBTRACT = 7;
        static final int MULTIPLY = 8;
        static final int DIVIDE = 9;
        static final int LESS = 10;
        static final int SAME = 11;
        static final int AND = 12;
        static final int OR = 13;
        static final int OPERATION_BITS = 4;
        static final int OPERATION_MASK = 15;

        /** No text has more tokens than bytes, and no token makes more than one operation. */
        final int[] code = new int[TAPE_LIMIT];
        final int[] ends;
        final int[] costs;
        final int most;
        int length;
        int size;
        int silent;

        Rules(int most) {
            this.most = most;
            ends = new int[most];
            costs = new int[most];
        }

        void clear() {
            length = 0;
            size = 0;
            silent = 0;
        }

        void add(int operation, int operand) {
            if (length < TAPE_LIMIT) {
                code[length] = operation | operand << OPERATION_BITS;
                length++;
            }
        }

        /** What was added since the last end is a rule now: its number. */
        int end(int cost, boolean isSilent) {
            if (size >= most) {
                return NONE;
            }
            ends[size] = length;
            costs[size] = cost;
            silent |= isSilent ? 1 << size : 0;
            size++;
            return size - 1;
        }

        boolean isRule(int rule) {
            return rule >= 0 && rule < size;
        }

        int startOf(int rule) {
            return rule > 0 && rule <= size ? ends[rule - 1] : 0;
        }

        int costOf(int rule) {
            return isRule(rule) ? costs[rule] : NONE;
        }

        boolean isSilent(int rule) {
            return isRule(rule) && bit(silent, rule) == 1;
        }
    }

    /** Reads an EXPR from the tape into rules. */
    private static final class RuleReader {
        static final int DEPTH_LIMIT = 6;
        static final int NOT_LIMIT = 6;
        static final int NUMBER_LIMIT = 9999;

        final Tape tape;
        Rules rules;
        int columns;
        int roles;
        boolean isSilent;

        RuleReader(Tape tape, Rules rules) {
            this.tape = tape;
            this.rules = rules;
        }

        void aim(Rules target, int columnsTold, int rolesTold) {
            rules = target;
            columns = columnsTold;
            roles = rolesTold;
        }

        /** The number of the rule that was read; NONE, if it has a fault. */
        int readRule() {
            tape.passed = 0;
            isSilent = true;
            return readOr(0) ? rules.end(tape.passed, isSilent) : NONE;
        }

        boolean canBegin() {
            return tape.kind == Tape.NUMBER || tape.kind == Tape.WORD || tape.isSign('(');
        }

        /** The depth is how many others it is within. */
        private boolean readOr(int depth) {
            if (!canBegin()) {
                return tape.refuse(FAULT_MISPLACED);
            }
            if (depth >= DEPTH_LIMIT) {
                return tape.refuse(FAULT_TOO_MUCH);
            }
            if (!readAnd(depth)) {
                return false;
            }
            for (int i = 0; i < TAPE_LIMIT && tape.isWord("or"); i++) {
                tape.advance();
                if (!readAnd(depth)) {
                    return false;
                }
                rules.add(Rules.OR, 0);
            }
            return true;
        }

        private boolean readAnd(int depth) {
            if (!readNot(depth)) {
                return false;
            }
            for (int i = 0; i < TAPE_LIMIT && tape.isWord("and"); i++) {
                tape.advance();
                if (!readNot(depth)) {
                    return false;
                }
                rules.add(Rules.AND, 0);
            }
            return true;
        }

        private boolean readNot(int depth) {
            int nots = 0;
            while (nots < NOT_LIMIT && tape.isWord("not")) {
                tape.advance();
                nots++;
            }
            if (nots == NOT_LIMIT && tape.isWord("not")) {
                return tape.refuse(FAULT_TOO_MUCH);
            }
            if (!readTest(depth)) {
                return false;
            }
            for (int i = 0; i < nots; i++) {
                rules.add(Rules.NOT, 0);
            }
            return true;
        }

        private boolean readTest(int depth) {
            if (!readSum(depth)) {
                return false;
            }
            boolean isLess = tape.isSign('<');
            if (!isLess && !tape.isSign('=')) {
                return true;
            }
            tape.advance();
            if (!readSum(depth)) {
                return false;
            }
            rules.add(isLess ? Rules.LESS : Rules.SAME, 0);
            return true;
        }

        private boolean readSum(int depth) {
            if (!readProduct(depth)) {
                return false;
            }
            for (int i = 0; i < TAPE_LIMIT && (tape.isSign('+') || tape.isSign('-')); i++) {
                boolean isPlus = tape.isSign('+');
                tape.advance();
                if (!readProduct(depth)) {
                    return false;
                }
                rules.add(isPlus ? Rules.ADD : Rules.SUBTRACT, 0);
            }
            return true;
        }

        private boolean readProduct(int depth) {
            if (!readPart(depth)) {
                return false;
            }
            for (int i = 0; i < TAPE_LIMIT && (tape.isSign('*') || tape.isSign('/')); i++) {
                boolean isTimes = tape.isSign('*');
                tape.advance();
                if (!isTimes && (tape.kind != Tape.NUMBER || tape.number == 0)) {
                    isSilent = false;
                }
                if (!readPart(depth)) {
                    return false;
                }
                rules.add(isTimes ? Rules.MULTIPLY : Rules.DIVIDE, 0);
            }
            return true;
        }

        private boolean readPart(int depth) {
            if (tape.kind == Tape.WORD) {
                return readWord(depth);
            }
            if (tape.isSign('(')) {
                return readWithin(depth);
            }
            if (!tape.needNumber(NUMBER_LIMIT, FAULT_TOO_MUCH)) {
                return false;
            }
            rules.add(Rules.NUMBER, tape.number);
            tape.advance();
            return true;
        }

        private boolean readWord(int depth) {
            int column = tape.columnNamed(columns);
            if (column != NONE) {
                rules.add(Rules.COLUMN, column);
                tape.advance();
                return true;
            }
            if (tape.isWord("me")) {
                rules.add(Rules.ME, 0);
                tape.advance();
                return true;
            }
            if (tape.isWord("has")) {
                return readHas();
            }
            if (!tape.isWord("peek")) {
                return tape.refuse(FAULT_UNKNOWN);
            }
            tape.advance();
            isSilent = false;
            if (!readWithin(depth)) {
                return false;
            }
            rules.add(Rules.PEEK, 0);
            return true;
        }

        private boolean readHas() {
            tape.advance();
            if (!tape.needNumber(roles - 1, FAULT_UNKNOWN)) {
                return false;
            }
            rules.add(Rules.HAS, tape.number);
            tape.advance();
            // The number of 'has' costs nothing.
            tape.passed--;
            return true;
        }

        private boolean readWithin(int depth) {
            return tape.passSign('(') && readOr(depth + 1) && tape.passSign(')');
        }
    }

    /** Reads a TEXT from the tape into a book and a state, and the text of a QUERY into rules. */
    private static final class TextReader {
        final Tape tape;
        final RuleReader ruleReader;
        Book book;
        State state;

        TextReader(Tape tape, Book book, State state) {
            this.tape = tape;
            this.book = book;
            this.state = state;
            ruleReader = new RuleReader(tape, book.rules);
        }

        boolean readConditions(int n, Book about, Rules conditions) {
            conditions.clear();
            ruleReader.aim(conditions, about.columns, about.roles);
            tape.begin(n);
            for (int i = 0; i < CONDITION_LIMIT; i++) {
                if (ruleReader.readRule() == NONE) {
                    return false;
                }
                if (tape.kind == Tape.END) {
                    return true;
                }
                if (!tape.passSign(',')) {
                    return false;
                }
            }
            return tape.refuse(ruleReader.canBegin() ? FAULT_TOO_MUCH : FAULT_MISPLACED);
        }

        boolean readText(int n, Book intoBook, State intoState) {
            book = intoBook;
            state = intoState;
            book.clear();
            state.clear();
            tape.begin(n);
            if (tape.isWord("columns") && !readColumns()) {
                return false;
            }
            boolean isGood = true;
            for (int i = 0; i < TAPE_LIMIT && isGood && tape.kind != Tape.END; i++) {
                if (tape.isWord("role")) {
                    isGood = readRole();
                } else if (tape.isWord("row")) {
                    isGood = readRow();
                } else if (tape.isWord("permit") || tape.isWord("restrict")) {
                    isGood = readPolicy();
                } else if (tape.isWord("view")) {
                    isGood = readView();
                } else {
                    isGood = tape.refuse(FAULT_MISPLACED);
                }
                isGood = isGood && tape.passSign(';');
            }
            state.on = (1 << book.policies) - 1;
            return isGood;
        }

        private boolean readColumns() {
            tape.advance();
            if (!tape.needNumber(COLUMN_LIMIT, FAULT_TOO_MUCH)) {
                return false;
            }
            if (tape.number < 1) {
                return tape.refuse(FAULT_TOO_MUCH);
            }
            book.columns = tape.number;
            tape.advance();
            return tape.passSign(';');
        }

        private boolean readRole() {
            int role = book.roles;
            if (role >= ROLE_LIMIT) {
                return tape.refuse(FAULT_TOO_MUCH);
            }
            tape.advance();
            for (int i = 0; i < TAPE_LIMIT && tape.kind == Tape.NUMBER; i++) {
                if (!tape.needNumber(role - 1, FAULT_UNKNOWN)) {
                    return false;
                }
                state.given[role] |= 1 << tape.number;
                tape.advance();
            }
            book.roles++;
            return true;
        }

        private boolean readRow() {
            int row = state.rows;
            if (row >= ROW_LIMIT) {
                return tape.refuse(FAULT_TOO_MUCH);
            }
            tape.advance();
            for (int column = 0; column < book.columns; column++) {
                boolean isMinus = tape.isSign('-');
                if (isMinus) {
                    tape.advance();
                }
                if (!tape.needNumber(CELL_LIMIT, FAULT_TOO_MUCH)) {
                    return false;
                }
                state.setNumber(row, column, isMinus ? -tape.number : tape.number);
                tape.advance();
            }
            state.rows++;
            return true;
        }

        private boolean readPolicy() {
            int policy = book.policies;
            if (policy >= POLICY_LIMIT) {
                return tape.refuse(FAULT_TOO_MUCH);
            }
            book.using[policy] = NONE;
            book.check[policy] = NONE;
            book.policies++;
            if (!readWhose(policy)) {
                return false;
            }
            ruleReader.aim(book.rules, book.columns, book.roles);
            if (tape.isWord("using")) {
                tape.advance();
                book.using[policy] = ruleReader.readRule();
            }
            if (tape.fault == 0 && tape.isWord("check")) {
                tape.advance();
                book.check[policy] = ruleReader.readRule();
            }
            return tape.fault == 0;
        }

        private boolean readWhose(int policy) {
            book.restricting |= tape.isWord("restrict") ? 1 << policy : 0;
            tape.advance();
            book.policyRole[policy] = NONE;
            if (!tape.isWord("all")) {
                if (!tape.needNumber(book.roles - 1, FAULT_UNKNOWN)) {
                    return false;
                }
                book.policyRole[policy] = tape.number;
            }
            tape.advance();
            book.command[policy] = commandNamed();
            if (book.command[policy] == NONE) {
                return tape.refuse(FAULT_MISPLACED);
            }
            tape.advance();
            return true;
        }

        private int commandNamed() {
            if (tape.isWord("read")) {
                return READ;
            }
            if (tape.isWord("insert")) {
                return INSERT;
            }
            if (tape.isWord("update")) {
                return UPDATE;
            }
            if (tape.isWord("delete")) {
                return DELETE;
            }
            return tape.isWord("any") ? ANY : NONE;
        }

        private boolean readView() {
            int view = book.views;
            if (view >= VIEW_LIMIT) {
                return tape.refuse(FAULT_TOO_MUCH);
            }
            tape.advance();
            if (!readOwner(view)) {
                return false;
            }
            if (tape.isWord("barrier")) {
                book.barriers |= 1 << view;
                tape.advance();
            }
            if (!readOf(view)) {
                return false;
            }
            if (!tape.isWord("where")) {
                return tape.refuse(FAULT_MISPLACED);
            }
            tape.advance();
            ruleReader.aim(book.rules, book.columns, book.roles);
            book.where[view] = ruleReader.readRule();
            book.views++;
            return book.where[view] != NONE;
        }

        private boolean readOwner(int view) {
            book.owner[view] = NONE;
            if (tape.isWord("caller")) {
                tape.advance();
                return true;
            }
            if (!tape.isWord("owner")) {
                return tape.refuse(FAULT_MISPLACED);
            }
            tape.advance();
            if (!tape.needNumber(book.roles - 1, FAULT_UNKNOWN)) {
                return false;
            }
            book.owner[view] = tape.number;
            tape.advance();
            return true;
        }

        private boolean readOf(int view) {
            book.of[view] = NONE;
            if (!tape.isWord("of")) {
                return true;
            }
            tape.advance();
            if (!tape.needNumber(view - 1, FAULT_UNKNOWN)) {
                return false;
            }
            book.of[view] = tape.number;
            tape.advance();
            return true;
        }
    }

    /** What a TEXT tells that no ACT changes. */
    private static final class Book {
        int columns = COLUMNS_UNTOLD;
        int roles;
        int policies;
        int restricting;
        final int[] policyRole = new int[POLICY_LIMIT];
        final int[] command = new int[POLICY_LIMIT];
        final int[] using = new int[POLICY_LIMIT];
        final int[] check = new int[POLICY_LIMIT];
        int views;
        int barriers;
        final int[] owner = new int[VIEW_LIMIT];
        final int[] of = new int[VIEW_LIMIT];
        final int[] where = new int[VIEW_LIMIT];
        final Rules rules = new Rules(2 * POLICY_LIMIT + VIEW_LIMIT);

        void clear() {
            columns = COLUMNS_UNTOLD;
            roles = 0;
            policies = 0;
            restricting = 0;
            views = 0;
            barriers = 0;
            rules.clear();
        }
    }

    /** What ACTS change, the ACTS themselves, and what is SEEN. */
    private static final class State {
        static final int INSERTED = 0;
        static final int UPDATED = 1;
        static final int DELETED = 2;
        static final int GIVEN = 3;
        static final int SWITCHED = 4;
        /** Of an ACT: its kind, where it was, and up to as many numbers as a ROW has. */
        static final int ACT_WIDTH = 2 + COLUMN_LIMIT;

        int rows;
        final int[] cells = new int[ROW_LIMIT * COLUMN_LIMIT];
        final int[] given = new int[ROLE_LIMIT];
        int on;
        int acts;
        final int[] act = new int[ACT_LIMIT * ACT_WIDTH];
        int seen;
        int seenIs;
        final int[] seenUser = new int[SEEN_LIMIT];
        final int[] seenRow = new int[SEEN_LIMIT];

        /** CELLS stay: each ROW that comes has all that its COLUMNS show. */
        void clear() {
            rows = 0;
            on = 0;
            acts = 0;
            for (int role = 0; role < ROLE_LIMIT; role++) {
                given[role] = 0;
            }
            forgetSeen();
        }

        void copyFrom(State other) {
            rows = other.rows;
            on = other.on;
            acts = other.acts;
            seen = other.seen;
            seenIs = other.seenIs;
            System.arraycopy(other.cells, 0, cells, 0, ROW_LIMIT * COLUMN_LIMIT);
            System.arraycopy(other.given, 0, given, 0, ROLE_LIMIT);
            System.arraycopy(other.act, 0, act, 0, ACT_LIMIT * ACT_WIDTH);
            System.arraycopy(other.seenUser, 0, seenUser, 0, SEEN_LIMIT);
            System.arraycopy(other.seenRow, 0, seenRow, 0, SEEN_LIMIT);
        }

        boolean isCell(int row, int column) {
            return row >= 0 && row < ROW_LIMIT && column >= 0 && column < COLUMN_LIMIT;
        }

        int numberAt(int row, int column) {
            return isCell(row, column) ? cells[row * COLUMN_LIMIT + column] : 0;
        }

        void setNumber(int row, int column, int number) {
            if (isCell(row, column)) {
                cells[row * COLUMN_LIMIT + column] = number;
            }
        }

        /** Where the new ACT stands; the oldest one makes room for it. */
        private int noteAct(int kind, int where) {
            if (acts >= ACT_LIMIT) {
                acts = ACT_LIMIT - 1;
                System.arraycopy(act, ACT_WIDTH, act, 0, acts * ACT_WIDTH);
            }
            int place = acts * ACT_WIDTH;
            act[place] = kind;
            act[place + 1] = where;
            acts++;
            return place + 2;
        }

        void noteInsert(int[] line) {
            if (rows >= ROW_LIMIT || line.length < COLUMN_LIMIT) {
                return;
            }
            System.arraycopy(line, 0, cells, rows * COLUMN_LIMIT, COLUMN_LIMIT);
            noteAct(INSERTED, rows);
            rows++;
        }

        void noteUpdate(int row, int column, int number) {
            int place = noteAct(UPDATED, row);
            act[place] = column;
            act[place + 1] = numberAt(row, column);
            setNumber(row, column, number);
        }

        void noteDelete(int row) {
            if (row < 0 || row >= rows) {
                return;
            }
            int place = noteAct(DELETED, row);
            int from = row * COLUMN_LIMIT;
            System.arraycopy(cells, from, act, place, COLUMN_LIMIT);
            rows--;
            System.arraycopy(cells, from + COLUMN_LIMIT, cells, from, (rows - row) * COLUMN_LIMIT);
        }

        void noteGift(int role, int other) {
            int place = noteAct(GIVEN, role);
            act[place] = other;
            given[role] ^= 1 << other;
        }

        void noteSwitch(int policy) {
            noteAct(SWITCHED, policy);
            on ^= 1 << policy;
        }

        /** False: there was no ACT. */
        boolean takeBack() {
            if (acts < 1) {
                return false;
            }
            acts--;
            int place = acts * ACT_WIDTH + 2;
            int where = act[place - 1];
            switch (act[place - 2]) {
                case INSERTED:
                    rows = Math.max(rows - 1, 0);
                    break;
                case UPDATED:
                    setNumber(where, act[place], act[place + 1]);
                    break;
                case DELETED:
                    bringBack(where, place);
                    break;
                case GIVEN:
                    if (where >= 0 && where < ROLE_LIMIT) {
                        given[where] ^= 1 << act[place];
                    }
                    break;
                default:
                    on ^= 1 << where;
                    break;
            }
            return true;
        }

        private void bringBack(int row, int place) {
            if (rows >= ROW_LIMIT || row < 0 || row > rows) {
                return;
            }
            int from = row * COLUMN_LIMIT;
            System.arraycopy(cells, from, cells, from + COLUMN_LIMIT, (rows - row) * COLUMN_LIMIT);
            System.arraycopy(act, place, cells, from, COLUMN_LIMIT);
            rows++;
        }

        /** False: no more can be SEEN. */
        boolean noteSeen(int user, int row, boolean is) {
            if (seen >= SEEN_LIMIT) {
                return false;
            }
            seenUser[seen] = user;
            seenRow[seen] = row;
            seenIs |= is ? 1 << seen : 0;
            seen++;
            return true;
        }

        void forgetSeen() {
            seen = 0;
            seenIs = 0;
        }
    }

    /** Works out rules and POLICIES for a line of numbers (a ROW as it is, or would be) and a USER. */
    private static final class Judge {
        /** Above the five that may wait in each of the seven levels of an EXPR. */
        static final int STACK_LIMIT = 64;

        Book book;
        State state;
        final int[] has = new int[ROLE_LIMIT];
        final int[] line = new int[COLUMN_LIMIT];
        final int[] stack = new int[STACK_LIMIT];
        int me;
        int mine;
        boolean failed;
        int peeks;
        int peekSum;

        Judge(Book book, State state) {
            this.book = book;
            this.state = state;
        }

        void sit(Book overBook, State overState) {
            book = overBook;
            state = overState;
            for (int role = 0; role < ROLE_LIMIT; role++) {
                has[role] = allHadBy(1 << role);
            }
        }

        int allHadBy(int roles) {
            int all = roles;
            for (int round = 0; round < ROLE_LIMIT; round++) {
                for (int role = 0; role < ROLE_LIMIT; role++) {
                    all |= bit(all, role) == 1 ? state.given[role] : 0;
                }
            }
            return all;
        }

        void become(int user) {
            me = user;
            mine = user >= 0 && user < ROLE_LIMIT ? has[user] : 0;
        }

        void take(int row) {
            for (int column = 0; column < COLUMN_LIMIT; column++) {
                line[column] = state.numberAt(row, column);
            }
        }

        /** Of those POLICIES that are on, the ones OF the USER and the COMMAND. */
        int applying(int on, int command) {
            int bits = 0;
            for (int policy = 0; policy < book.policies; policy++) {
                int role = book.policyRole[policy];
                int its = book.command[policy];
                boolean isMine = role == NONE || bit(mine, role) == 1;
                if (bit(on, policy) == 1 && isMine && (its == command || its == ANY)) {
                    bits |= 1 << policy;
                }
            }
            return bits;
        }

        /** Which of these POLICIES HOLD. */
        int holding(int policies, boolean byCheck) {
            int bits = 0;
            for (int policy = 0; policy < book.policies; policy++) {
                boolean hasCheck = book.check[policy] != NONE;
                int rule = byCheck && hasCheck ? book.check[policy] : book.using[policy];
                if (bit(policies, policy) == 1 && holds(book.rules, rule)) {
                    bits |= 1 << policy;
                }
            }
            return bits;
        }

        /** Whether these POLICIES let it, if of them those hold. */
        boolean lets(int policies, int holding) {
            int permitting = policies & ~book.restricting;
            int restricting = policies & book.restricting;
            return (permitting & holding) != 0 && (restricting & ~holding) == 0;
        }

        boolean allows(int command, boolean byCheck) {
            int policies = applying(state.on, command);
            return lets(policies, holding(policies, byCheck));
        }

        int rowsRead(int role) {
            become(role);
            int bits = 0;
            for (int row = 0; row < state.rows; row++) {
                take(row);
                bits |= allows(READ, BY_USING) ? 1 << row : 0;
            }
            return bits;
        }

        int readersOf(int row) {
            take(row);
            int bits = 0;
            for (int role = 0; role < book.roles; role++) {
                become(role);
                bits |= allows(READ, BY_USING) ? 1 << role : 0;
            }
            return bits;
        }

        /** Without a rule it does. Whether it failed, and the PEEKS of this one rule, are kept, too. */
        boolean holds(Rules rules, int rule) {
            failed = false;
            peeks = 0;
            peekSum = 0;
            if (!rules.isRule(rule)) {
                return true;
            }
            int top = 0;
            int end = rules.ends[rule];
            for (int i = rules.startOf(rule); i < end; i++) {
                int operation = rules.code[i] & Rules.OPERATION_MASK;
                int operand = rules.code[i] >> Rules.OPERATION_BITS;
                int needed = operation <= Rules.LAST_OF_NONE ? 0 : operation <= Rules.LAST_OF_ONE ? 1 : 2;
                if (top < needed || top - needed >= STACK_LIMIT) {
                    return false;
                }
                top -= needed;
                if (needed == 0) {
                    stack[top] = ofNone(operation, operand);
                } else if (needed == 1) {
                    stack[top] = ofOne(operation, stack[top]);
                } else {
                    stack[top] = ofTwo(operation, stack[top], stack[top + 1]);
                }
                top++;
            }
            return stack[0] != 0 && !failed;
        }

        private int ofNone(int operation, int operand) {
            switch (operation) {
                case Rules.COLUMN:
                    return operand < COLUMN_LIMIT ? line[operand] : 0;
                case Rules.ME:
                    return me;
                case Rules.HAS:
                    return mine >> operand & 1;
                default:
                    return operand;
            }
        }

        private int ofOne(int operation, int number) {
            if (operation == Rules.NOT) {
                return number == 0 ? 1 : 0;
            }
            peeks++;
            peekSum += number;
            return number;
        }

        private int ofTwo(int operation, int left, int right) {
            switch (operation) {
                case Rules.ADD:
                    return left + right;
                case Rules.SUBTRACT:
                    return left - right;
                case Rules.MULTIPLY:
                    return left * right;
                case Rules.DIVIDE:
                    failed |= right == 0;
                    return right == 0 ? 0 : left / right;
                case Rules.LESS:
                    return left < right ? 1 : 0;
                case Rules.SAME:
                    return left == right ? 1 : 0;
                case Rules.AND:
                    return left != 0 && right != 0 ? 1 : 0;
                default:
                    return left != 0 || right != 0 ? 1 : 0;
            }
        }
    }

    /** A STEP of a PLAN. */
    private static final class Step {
        static final int POLICY = 0;
        static final int WHERE = 1;
        static final int CONDITION = 2;

        int kind;
        int which;
        int cost;
        int as;
        int rule;
        boolean isSilent;
        boolean isBarrier;
        int told;
        int done;

        void set(int itsKind, int itsNumber, int itsUser) {
            kind = itsKind;
            which = itsNumber;
            as = itsUser;
            rule = NONE;
            isSilent = false;
            isBarrier = false;
            told = 0;
            done = 0;
        }

        void follow(Rules rules, int itsRule) {
            rule = itsRule;
            cost = rules.costOf(itsRule);
            isSilent = rules.isSilent(itsRule);
        }

        boolean mayGoAheadOf(Step before) {
            if (kind == POLICY || cost >= before.cost) {
                return false;
            }
            return isSilent || before.isSilent && !before.isBarrier;
        }

        int detail(int what) {
            switch (what) {
                case 0:
                    return kind;
                case 1:
                    return which;
                case 2:
                    return cost;
                case 3:
                    return isSilent ? 1 : 0;
                case 4:
                    return told;
                default:
                    return done;
            }
        }
    }

    /** The PLAN of the latest QUERY, and what came of it as it ran. */
    private static final class Plan {
        static final int STEP_LIMIT = 1 + VIEW_LIMIT + CONDITION_LIMIT;

        final Step[] steps = new Step[STEP_LIMIT];
        boolean isThere;
        int size;
        int answer;
        int failRow;
        int failStep;
        int peeks;
        int peekSum;
        int tableAs;

        Plan() {
            for (int i = 0; i < STEP_LIMIT; i++) {
                steps[i] = new Step();
            }
        }

        int outcome(int what) {
            switch (what) {
                case 0:
                    return failRow == NONE ? Integer.bitCount(answer) : NONE;
                case 1:
                    return answer;
                case 2:
                    return failRow;
                case 3:
                    return failStep;
                case 4:
                    return size;
                case 5:
                    return peeks;
                case 6:
                    return peekSum;
                default:
                    return tableAs;
            }
        }

        /** The STEPS in their first order. */
        void lay(Judge judge, Rules conditions, int user, int target) {
            isThere = true;
            int views = viewsDownFrom(judge.book, target);
            tableAs = layWheres(judge.book, user, target, views);
            steps[0].set(Step.POLICY, NONE, tableAs);
            steps[0].cost = policyCost(judge, tableAs);
            size = 1 + views;
            for (int i = 0; i < conditions.size && size < STEP_LIMIT; i++) {
                steps[size].set(Step.CONDITION, i, user);
                steps[size].follow(conditions, i);
                size++;
            }
        }

        private static int viewsDownFrom(Book book, int target) {
            int views = 0;
            int view = target;
            while (view >= 0 && view < VIEW_LIMIT && views < VIEW_LIMIT) {
                views++;
                view = book.of[view];
            }
            return views;
        }

        /** The WHERES stand behind the POLICY, the target's last; the AS of the TABLE comes back. */
        private int layWheres(Book book, int user, int target, int views) {
            int as = user;
            int view = target;
            for (int place = views; place > 0 && view >= 0 && view < VIEW_LIMIT; place--) {
                as = book.owner[view] == NONE ? as : book.owner[view];
                steps[place].set(Step.WHERE, view, as);
                steps[place].follow(book.rules, book.where[view]);
                steps[place].isBarrier = bit(book.barriers, view) == 1;
                view = book.of[view];
            }
            return as;
        }

        private static int policyCost(Judge judge, int as) {
            judge.become(as);
            int policies = judge.applying(judge.state.on, READ);
            int cost = 1;
            for (int policy = 0; policy < judge.book.policies; policy++) {
                int rule = judge.book.using[policy];
                cost += bit(policies, policy) == 1 && rule != NONE ? judge.book.rules.costOf(rule) : 0;
            }
            return cost;
        }

        /** Each swap takes away one couple whose later STEP costs less: there are no more than couples. */
        void order() {
            for (int swaps = 0; swaps < STEP_LIMIT * STEP_LIMIT; swaps++) {
                int place = firstThatMayGoAhead();
                if (place < 1) {
                    return;
                }
                Step mover = steps[place];
                steps[place] = steps[place - 1];
                steps[place - 1] = mover;
            }
        }

        private int firstThatMayGoAhead() {
            for (int i = 1; i < size; i++) {
                if (steps[i].mayGoAheadOf(steps[i - 1])) {
                    return i;
                }
            }
            return NONE;
        }

        void pass(Judge judge, Rules conditions) {
            answer = 0;
            failRow = NONE;
            failStep = NONE;
            peeks = 0;
            peekSum = 0;
            int readable = judge.rowsRead(tableAs);
            for (int row = 0; row < judge.state.rows && failRow == NONE; row++) {
                judge.take(row);
                if (passRow(judge, conditions, row, bit(readable, row) == 1)) {
                    answer |= 1 << row;
                }
            }
            if (failRow != NONE) {
                answer = 0;
            }
        }

        private boolean passRow(Judge judge, Rules conditions, int row, boolean isRead) {
            for (int i = 0; i < size; i++) {
                Step step = steps[i];
                step.done++;
                step.told += isRead ? 1 : 0;
                if (step.kind == Step.POLICY) {
                    if (!isRead) {
                        return false;
                    }
                    continue;
                }
                judge.become(step.as);
                boolean holds = judge.holds(step.kind == Step.WHERE ? judge.book.rules : conditions, step.rule);
                peeks += judge.peeks;
                peekSum += judge.peekSum;
                if (judge.failed) {
                    failRow = row;
                    failStep = i;
                }
                if (!holds) {
                    return false;
                }
            }
            return true;
        }
    }

    /** WRITES on the state over which the judge sits. */
    private static final class Writer {
        final Judge judge;
        int seed;

        Writer(Judge judge) {
            this.judge = judge;
        }

        private static boolean isNumber(int number) {
            return number >= -CELL_LIMIT && number <= CELL_LIMIT;
        }

        /** Inserts the judge's line. */
        boolean putLine(int user) {
            State state = judge.state;
            if (state.rows >= ROW_LIMIT) {
                return false;
            }
            for (int column = 0; column < COLUMN_LIMIT; column++) {
                if (column >= judge.book.columns) {
                    judge.line[column] = 0;
                }
                if (!isNumber(judge.line[column])) {
                    return false;
                }
            }
            judge.become(user);
            if (!judge.allows(INSERT, BY_CHECK)) {
                return false;
            }
            state.noteInsert(judge.line);
            return true;
        }

        /** 1: it was done; 0: as if there were no such ROW; NONE: refused. */
        int change(int user, int row, int column, int number) {
            if (!isNumber(number)) {
                return NONE;
            }
            if (!canReach(user, row, UPDATE) || column < 0 || column >= COLUMN_LIMIT) {
                return 0;
            }
            judge.line[column] = number;
            if (!judge.allows(UPDATE, BY_CHECK)) {
                return NONE;
            }
            judge.state.noteUpdate(row, column, number);
            return 1;
        }

        boolean drop(int user, int row) {
            if (!canReach(user, row, DELETE)) {
                return false;
            }
            judge.state.noteDelete(row);
            return true;
        }

        private boolean canReach(int user, int row, int command) {
            if (row < 0 || row >= judge.state.rows) {
                return false;
            }
            judge.become(user);
            judge.take(row);
            return judge.allows(READ, BY_USING) && judge.allows(command, BY_USING);
        }

        /** Whether its WRITE was done; there must be a ROLE. */
        boolean passYear() {
            int user = draw(judge.book.roles);
            int deed = draw(3);
            if (deed == 0) {
                for (int column = 0; column < judge.book.columns && column < COLUMN_LIMIT; column++) {
                    judge.line[column] = draw(10);
                }
                return putLine(user);
            }
            if (judge.state.rows < 1) {
                return false;
            }
            int row = draw(judge.state.rows);
            if (deed == 2) {
                return drop(user, row);
            }
            int column = draw(judge.book.columns);
            return change(user, row, column, draw(10)) == 1;
        }

        private int draw(int many) {
            seed = seed * 1103515245 + 12345;
            return many > 0 ? (seed >> 16 & 32767) % many : 0;
        }
    }

    /** What can be worked out of the state over which the judge sits, as it is or might be. */
    private static final class Insight {
        static final int ESCAPES = 0;
        static final int MEANT = 1;
        static final int LOOK = 2;

        final Judge judge;
        final int[] rowsRead = new int[ROLE_LIMIT];
        final int[] rowsTurned = new int[ROLE_LIMIT];
        int rolesUnturned;
        int found;
        int first;

        Insight(Judge judge) {
            this.judge = judge;
        }

        int sights() {
            int sights = 0;
            for (int role = 0; role < judge.book.roles; role++) {
                sights += Integer.bitCount(judge.rowsRead(role));
            }
            return sights;
        }

        int weight(int policy) {
            int couples = 0;
            for (int role = 0; role < judge.book.roles; role++) {
                judge.become(role);
                for (int row = 0; row < judge.state.rows; row++) {
                    judge.take(row);
                    couples += bit(turning(), policy);
                }
            }
            return couples;
        }

        int needless() {
            int mattering = 0;
            for (int role = 0; role < judge.book.roles; role++) {
                judge.become(role);
                for (int row = 0; row < judge.state.rows; row++) {
                    judge.take(row);
                    mattering |= turning();
                }
            }
            return judge.state.on & ~mattering;
        }

        /** The POLICIES each of which, were it switched, would change whether the line is read. */
        private int turning() {
            int on = judge.state.on;
            int policies = judge.applying((1 << POLICY_LIMIT) - 1, READ);
            int holding = judge.holding(policies, BY_USING);
            boolean isRead = judge.lets(policies & on, holding);
            int bits = 0;
            for (int policy = 0; policy < judge.book.policies; policy++) {
                int switched = on ^ 1 << policy;
                bits |= judge.lets(policies & switched, holding) != isRead ? 1 << policy : 0;
            }
            return bits;
        }

        int rolesLacking(int user, int row) {
            judge.take(row);
            for (int few = 0; few <= judge.book.roles; few++) {
                for (int roles = 0; roles < 1 << judge.book.roles; roles++) {
                    if (Integer.bitCount(roles) == few && readsWith(user, roles)) {
                        return roles;
                    }
                }
            }
            return NONE;
        }

        private boolean readsWith(int user, int roles) {
            judge.me = user;
            judge.mine = judge.allHadBy(1 << user | roles);
            return judge.allows(READ, BY_USING);
        }

        int chanceToRead(int user, int row, int tenths) {
            judge.become(user);
            judge.take(row);
            int on = judge.state.on;
            int policies = judge.applying(on, READ);
            int holding = judge.holding(policies, BY_USING);
            int chance = 0;
            for (int left = 0; left < 1 << POLICY_LIMIT; left++) {
                if ((left & ~on) == 0 && judge.lets(policies & left, holding)) {
                    chance += chanceOf(left, on, tenths);
                }
            }
            return chance;
        }

        private static int chanceOf(int left, int on, int tenths) {
            int chance = 1;
            for (int policy = 0; policy < POLICY_LIMIT; policy++) {
                if (bit(on, policy) == 1) {
                    chance *= bit(left, policy) == 1 ? TENTHS - tenths : tenths;
                }
            }
            return chance;
        }

        /** What a LOOK compares with, ahead of its search. */
        void readyToLook() {
            rolesUnturned = 0;
            for (int role = 0; role < judge.book.roles; role++) {
                rowsRead[role] = judge.rowsRead(role);
                rowsTurned[role] = 0;
            }
        }

        int setsOf(int role) {
            return Integer.bitCount(rowsTurned[role]) + bit(rolesUnturned, role);
        }

        int roleToLookBy() {
            int best = NONE;
            int most = 0;
            for (int role = 0; role < judge.book.roles; role++) {
                if (setsOf(role) > most) {
                    best = role;
                    most = setsOf(role);
                }
            }
            return best;
        }

        /**
         * Tries other numbers in CELLS; the user counts for ESCAPES alone. What is SEEN and astray in
         * another ROW no number of this one mends, so such a ROW is not tried.
         */
        void search(int aim, int user) {
            found = 0;
            first = NONE;
            int astray = aim == ESCAPES ? 0 : seenAstray();
            for (int row = 0; row < judge.state.rows; row++) {
                judge.take(row);
                if (aim == ESCAPES ? canChange(user) : (astray & ~seenOf(row)) == 0) {
                    tryNumbers(row, aim);
                }
            }
        }

        private boolean canChange(int user) {
            judge.become(user);
            return judge.allows(READ, BY_USING) && judge.allows(UPDATE, BY_USING);
        }

        /** What is SEEN and isn't so, as bits. */
        int seenAstray() {
            State state = judge.state;
            int bits = 0;
            for (int i = 0; i < state.seen; i++) {
                boolean isThere = state.seenRow[i] < state.rows;
                judge.take(state.seenRow[i]);
                bits |= isThere && isSo(i) ? 0 : 1 << i;
            }
            return bits;
        }

        private int seenOf(int row) {
            int bits = 0;
            for (int i = 0; i < judge.state.seen; i++) {
                bits |= judge.state.seenRow[i] == row ? 1 << i : 0;
            }
            return bits;
        }

        private boolean isSo(int i) {
            judge.become(judge.state.seenUser[i]);
            return judge.allows(READ, BY_USING) == (bit(judge.state.seenIs, i) == 1);
        }

        private void tryNumbers(int row, int aim) {
            for (int column = 0; column < judge.book.columns && column < COLUMN_LIMIT; column++) {
                int was = judge.line[column];
                for (int number = -TRIED_LIMIT; number <= TRIED_LIMIT; number++) {
                    judge.line[column] = number;
                    if (number != was && fits(row, aim)) {
                        noteFound(row, column, number);
                        noteTurns(row, aim);
                    }
                }
                judge.line[column] = was;
            }
        }

        private boolean fits(int row, int aim) {
            if (aim == ESCAPES) {
                return judge.allows(UPDATE, BY_CHECK) && !judge.allows(READ, BY_USING);
            }
            for (int i = 0; i < judge.state.seen; i++) {
                if (judge.state.seenRow[i] == row) {
                    judge.become(judge.state.seenUser[i]);
                    if (judge.allows(READ, BY_USING) != (bit(judge.state.seenIs, i) == 1)) {
                        return false;
                    }
                }
            }
            return true;
        }

        private void noteFound(int row, int column, int number) {
            found++;
            if (first == NONE) {
                first = 1000 * row + 100 * column + number + 50;
            }
        }

        /** A ROLE's set of ROWS is as ever, or differs in this ROW alone: so sets are told apart by ROWS. */
        private void noteTurns(int row, int aim) {
            if (aim != LOOK) {
                return;
            }
            for (int role = 0; role < judge.book.roles; role++) {
                judge.become(role);
                boolean isTurned = judge.allows(READ, BY_USING) != (bit(rowsRead[role], row) == 1);
                rowsTurned[role] |= isTurned ? 1 << row : 0;
                rolesUnturned |= isTurned ? 0 : 1 << role;
            }
        }
    }
}
