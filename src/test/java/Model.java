import java.util.ArrayDeque;
import java.util.ArrayList;
import java.util.Arrays;
import java.util.HashSet;
import java.util.List;
import java.util.NoSuchElementException;
import java.util.Set;

/**
 * The document once more, written for plainness and not for thrift: trees for rules, whole copies of
 * the data for what is undone, every trial carried out on the data. The class is compared with it.
 */
final class Model {
    static final int NONE = -1;

    // ---- tokens and faults

    static final class Fault extends RuntimeException {
        final int kind;
        final int place;

        Fault(int kind, int place) {
            super(null, null, false, false);
            this.kind = kind;
            this.place = place;
        }
    }

    record Token(String text, int place) {
        boolean isWord() {
            return !text.isEmpty() && text.chars().allMatch(c -> c >= 'a' && c <= 'z');
        }

        boolean isNumber() {
            return !text.isEmpty() && text.chars().allMatch(c -> c >= '0' && c <= '9');
        }

        boolean is(String other) {
            return text.equals(other);
        }
    }

    static List<Token> tokens(String text) {
        List<Token> tokens = new ArrayList<>();
        int i = 0;
        while (i < text.length()) {
            char c = text.charAt(i);
            int j = i + 1;
            if (c == ' ' || c == '\n') {
                i++;
                continue;
            }
            if (c >= 'a' && c <= 'z') {
                while (j < text.length() && text.charAt(j) >= 'a' && text.charAt(j) <= 'z') {
                    j++;
                }
            } else if (c >= '0' && c <= '9') {
                while (j < text.length() && text.charAt(j) >= '0' && text.charAt(j) <= '9') {
                    j++;
                }
            }
            tokens.add(new Token(text.substring(i, j), i));
            i = j;
        }
        tokens.add(new Token("", text.length()));
        return tokens;
    }

    // ---- rules

    interface Node {
        int work(Moment moment);
    }

    static final class Moment {
        int[] row;
        int user;
        Set<Integer> has;
        boolean failed;
        List<Integer> peeks = new ArrayList<>();
    }

    static final class Rule {
        Node node;
        int cost;
        boolean silent;

        boolean holds(Moment moment) {
            int number = node.work(moment);
            return !moment.failed && number != 0;
        }
    }

    static final class Policy {
        boolean restricts;
        int role;
        int command;
        Rule using;
        Rule check;
    }

    static final class View {
        int owner = NONE;
        boolean barrier;
        int of = NONE;
        Rule where;
    }

    /** What is undone, kept, restored. */
    static final class Data {
        List<int[]> rows = new ArrayList<>();
        List<Set<Integer>> given = new ArrayList<>();
        List<Boolean> on = new ArrayList<>();

        Data copy() {
            Data copy = new Data();
            rows.forEach(r -> copy.rows.add(r.clone()));
            given.forEach(g -> copy.given.add(new HashSet<>(g)));
            copy.on.addAll(on);
            return copy;
        }
    }

    record Seen(int user, int row, boolean is) {
    }

    static final class Parser {
        final List<Token> tokens;
        int at;
        int columns = 2;
        int roles;

        Parser(String text) {
            tokens = tokens(text);
        }

        Token now() {
            return tokens.get(at);
        }

        Fault fault(int kind) {
            return new Fault(kind, now().place());
        }

        void pass(String text) {
            if (!now().is(text)) {
                throw fault(1);
            }
            at++;
        }

        int number() {
            if (!now().isNumber()) {
                throw fault(1);
            }
            if (now().text().length() > 4) {
                throw fault(2);
            }
            int number = Integer.parseInt(now().text());
            return number;
        }

        int told(int many) {
            int number = number();
            if (number >= many) {
                throw fault(3);
            }
            at++;
            return number;
        }

        boolean canBegin() {
            return now().isNumber() || now().isWord() || now().is("(");
        }

        Rule rule() {
            int from = at;
            Rule rule = new Rule();
            rule.node = expr(0);
            rule.silent = true;
            for (int i = from; i < at; i++) {
                String text = tokens.get(i).text();
                boolean ofHas = i > from && tokens.get(i - 1).is("has");
                if (!text.equals("(") && !text.equals(")") && !ofHas) {
                    rule.cost++;
                }
                if (text.equals("peek")) {
                    rule.silent = false;
                }
                if (text.equals("/")) {
                    Token behind = tokens.get(i + 1);
                    rule.silent &= behind.isNumber() && Integer.parseInt(behind.text()) != 0;
                }
            }
            return rule;
        }

        Node expr(int within) {
            if (!canBegin()) {
                throw fault(1);
            }
            if (within == 6) {
                throw fault(2);
            }
            Node left = and(within);
            while (now().is("or")) {
                at++;
                Node a = left;
                Node b = and(within);
                left = m -> {
                    int x = a.work(m);
                    int y = b.work(m);
                    return (x != 0) || (y != 0) ? 1 : 0;
                };
            }
            return left;
        }

        Node and(int within) {
            Node left = not(within, 1);
            while (now().is("and")) {
                at++;
                Node a = left;
                Node b = not(within, 1);
                left = m -> {
                    int x = a.work(m);
                    int y = b.work(m);
                    return (x != 0) && (y != 0) ? 1 : 0;
                };
            }
            return left;
        }

        Node not(int within, int which) {
            if (now().is("not")) {
                if (which == 7) {
                    throw fault(2);
                }
                at++;
                Node a = not(within, which + 1);
                return m -> a.work(m) == 0 ? 1 : 0;
            }
            Node left = sum(within);
            if (now().is("<") || now().is("=")) {
                boolean less = now().is("<");
                at++;
                Node right = sum(within);
                return m -> {
                    int x = left.work(m);
                    int y = right.work(m);
                    return less ? (x < y ? 1 : 0) : (x == y ? 1 : 0);
                };
            }
            return left;
        }

        Node sum(int within) {
            Node left = product(within);
            while (now().is("+") || now().is("-")) {
                int sign = now().is("+") ? 1 : -1;
                at++;
                Node a = left;
                Node b = product(within);
                left = m -> {
                    int x = a.work(m);
                    return x + sign * b.work(m);
                };
            }
            return left;
        }

        Node product(int within) {
            Node left = part(within);
            while (now().is("*") || now().is("/")) {
                boolean times = now().is("*");
                at++;
                Node a = left;
                Node b = part(within);
                left = m -> {
                    int x = a.work(m);
                    int y = b.work(m);
                    if (times) {
                        return x * y;
                    }
                    if (y == 0) {
                        m.failed = true;
                        return 0;
                    }
                    return (int) ((long) x / (long) y);
                };
            }
            return left;
        }

        Node part(int within) {
            Token t = now();
            if (t.isNumber()) {
                int number = number();
                at++;
                return m -> number;
            }
            if (t.is("(")) {
                at++;
                Node inner = expr(within + 1);
                pass(")");
                return inner;
            }
            if (!t.isWord()) {
                throw fault(1);
            }
            if (t.text().length() == 1 && t.text().charAt(0) - 'a' < columns) {
                int column = t.text().charAt(0) - 'a';
                at++;
                return m -> m.row[column];
            }
            switch (t.text()) {
                case "me":
                    at++;
                    return m -> m.user;
                case "has":
                    at++;
                    int role = told(roles);
                    return m -> m.has.contains(role) ? 1 : 0;
                case "peek":
                    at++;
                    pass("(");
                    Node inner = expr(within + 1);
                    pass(")");
                    return m -> {
                        int x = inner.work(m);
                        m.peeks.add(x);
                        return x;
                    };
                default:
                    throw fault(3);
            }
        }
    }

    // ---- the object

    final StringBuilder tape = new StringBuilder();
    int columns = 2;
    Data data = new Data();
    List<Policy> policies = new ArrayList<>();
    List<View> views = new ArrayList<>();
    ArrayDeque<Data> acts = new ArrayDeque<>();
    List<Seen> seen = new ArrayList<>();
    Data keptData;
    List<Data> keptActs;
    List<Seen> keptSeen;
    int[] status = new int[3];
    int faultPlace = NONE;
    Ran ran;

    static final class StepRan {
        int kind;
        int which;
        int cost;
        boolean silent;
        boolean barrier;
        int as;
        Rule rule;
        int told;
        int done;
    }

    static final class Ran {
        List<StepRan> plan = new ArrayList<>();
        List<Integer> answer = new ArrayList<>();
        int failRow = NONE;
        int failStep = NONE;
        List<Integer> peeks = new ArrayList<>();
        int tableAs;
    }

    static void need(boolean is) {
        if (!is) {
            throw new NoSuchElementException();
        }
    }

    static void sane(boolean is) {
        if (!is) {
            throw new IllegalArgumentException();
        }
    }

    void needRole(int role) {
        need(role >= 0 && role < data.given.size());
    }

    void needRow(int row) {
        need(row >= 0 && row < data.rows.size());
    }

    int feed(int... five) {
        if (tape.length() > 680) {
            return NONE;
        }
        for (int number : five) {
            for (int i = 3; i >= 0; i--) {
                tape.append((char) (number >>> 8 * i & 255));
            }
        }
        return tape.length();
    }

    String cut(int n) {
        sane(n >= 0 && n <= tape.length());
        String text = tape.substring(0, n);
        tape.setLength(0);
        return text;
    }

    int tell(int n) {
        String text = cut(n);
        try {
            Model told = new Model();
            told.read(text);
            columns = told.columns;
            data = told.data;
            policies = told.policies;
            views = told.views;
            acts.clear();
            seen.clear();
            keptData = null;
            ran = null;
            faultPlace = NONE;
            return 0;
        } catch (Fault fault) {
            faultPlace = fault.place;
            status[0]++;
            return fault.kind;
        }
    }

    void read(String text) {
        Parser p = new Parser(text);
        if (p.now().is("columns")) {
            p.at++;
            int number = p.number();
            if (number < 1 || number > 4) {
                throw p.fault(2);
            }
            columns = number;
            p.columns = number;
            p.at++;
            p.pass(";");
        }
        while (!p.now().is("")) {
            switch (p.now().text()) {
                case "role" -> readRole(p);
                case "row" -> readRow(p);
                case "permit", "restrict" -> readPolicy(p);
                case "view" -> readView(p);
                default -> throw p.fault(1);
            }
            p.pass(";");
        }
    }

    void readRole(Parser p) {
        if (data.given.size() == 6) {
            throw p.fault(2);
        }
        p.at++;
        Set<Integer> given = new HashSet<>();
        while (p.now().isNumber()) {
            given.add(p.told(p.roles));
        }
        data.given.add(given);
        p.roles++;
    }

    void readRow(Parser p) {
        if (data.rows.size() == 16) {
            throw p.fault(2);
        }
        p.at++;
        int[] row = new int[columns];
        for (int i = 0; i < columns; i++) {
            int sign = 1;
            if (p.now().is("-")) {
                sign = -1;
                p.at++;
            }
            int number = p.number();
            if (number > 99) {
                throw p.fault(2);
            }
            row[i] = sign * number;
            p.at++;
        }
        data.rows.add(row);
    }

    void readPolicy(Parser p) {
        if (policies.size() == 8) {
            throw p.fault(2);
        }
        Policy policy = new Policy();
        policy.restricts = p.now().is("restrict");
        p.at++;
        if (p.now().is("all")) {
            policy.role = NONE;
            p.at++;
        } else {
            policy.role = p.told(p.roles);
        }
        policy.command = List.of("read", "insert", "update", "delete", "any").indexOf(p.now().text());
        if (policy.command < 0) {
            throw p.fault(1);
        }
        p.at++;
        if (p.now().is("using")) {
            p.at++;
            policy.using = p.rule();
        }
        if (p.now().is("check")) {
            p.at++;
            policy.check = p.rule();
        }
        policies.add(policy);
        data.on.add(true);
    }

    void readView(Parser p) {
        if (views.size() == 3) {
            throw p.fault(2);
        }
        p.at++;
        View view = new View();
        if (p.now().is("owner")) {
            p.at++;
            view.owner = p.told(p.roles);
        } else {
            p.pass("caller");
        }
        if (p.now().is("barrier")) {
            view.barrier = true;
            p.at++;
        }
        if (p.now().is("of")) {
            p.at++;
            view.of = p.told(views.size());
        }
        p.pass("where");
        view.where = p.rule();
        views.add(view);
    }

    // ---- who may what

    Set<Integer> has(int role) {
        Set<Integer> all = new HashSet<>();
        ArrayDeque<Integer> todo = new ArrayDeque<>(List.of(role));
        while (!todo.isEmpty()) {
            int next = todo.pop();
            if (all.add(next)) {
                todo.addAll(data.given.get(next));
            }
        }
        return all;
    }

    boolean isOf(int policy, int user, int command) {
        Policy p = policies.get(policy);
        return data.on.get(policy) && (p.role == NONE || has(user).contains(p.role))
                && (p.command == command || p.command == 4);
    }

    boolean holds(Rule rule, int user, int[] row) {
        if (rule == null) {
            return true;
        }
        Moment m = new Moment();
        m.row = row;
        m.user = user;
        m.has = has(user);
        return rule.holds(m);
    }

    boolean lets(int user, int command, boolean byCheck, int[] row) {
        boolean some = false;
        boolean all = true;
        for (int i = 0; i < policies.size(); i++) {
            if (!isOf(i, user, command)) {
                continue;
            }
            Policy p = policies.get(i);
            boolean holds = holds(byCheck && p.check != null ? p.check : p.using, user, row);
            if (p.restricts) {
                all &= holds;
            } else {
                some |= holds;
            }
        }
        return some && all;
    }

    boolean reads(int user, int row) {
        return lets(user, 0, false, data.rows.get(row));
    }

    int rowsRead(int user) {
        int bits = 0;
        for (int row = 0; row < data.rows.size(); row++) {
            bits |= reads(user, row) ? 1 << row : 0;
        }
        return bits;
    }

    int sights() {
        int n = 0;
        for (int role = 0; role < data.given.size(); role++) {
            n += Integer.bitCount(rowsRead(role));
        }
        return n;
    }

    int weight(int policy) {
        int n = 0;
        for (int role = 0; role < data.given.size(); role++) {
            int before = rowsRead(role);
            data.on.set(policy, !data.on.get(policy));
            n += Integer.bitCount(before ^ rowsRead(role));
            data.on.set(policy, !data.on.get(policy));
        }
        return n;
    }

    // ---- queries

    int query(int user, int target, int n) {
        needRole(user);
        need(target >= NONE && target < views.size());
        String text = cut(n);
        List<Rule> conditions = new ArrayList<>();
        try {
            Parser p = new Parser(text);
            p.columns = columns;
            p.roles = data.given.size();
            conditions.add(p.rule());
            while (!p.now().is("")) {
                p.pass(",");
                if (conditions.size() == 5 && p.canBegin()) {
                    throw p.fault(2);
                }
                conditions.add(p.rule());
            }
        } catch (Fault fault) {
            faultPlace = fault.place;
            status[0]++;
            return fault.kind;
        }
        faultPlace = NONE;
        ran = new Ran();
        lay(user, target, conditions);
        order(ran.plan);
        run();
        return 0;
    }

    void lay(int user, int target, List<Rule> conditions) {
        List<StepRan> wheres = new ArrayList<>();
        int as = user;
        for (int view = target; view != NONE; view = views.get(view).of) {
            View v = views.get(view);
            if (v.owner != NONE) {
                as = v.owner;
            }
            StepRan step = new StepRan();
            step.kind = 1;
            step.which = view;
            step.rule = v.where;
            step.barrier = v.barrier;
            step.as = as;
            wheres.add(0, step);
        }
        StepRan policy = new StepRan();
        policy.which = NONE;
        policy.as = as;
        policy.cost = 1;
        for (int i = 0; i < policies.size(); i++) {
            if (isOf(i, as, 0) && policies.get(i).using != null) {
                policy.cost += policies.get(i).using.cost;
            }
        }
        ran.tableAs = as;
        ran.plan.add(policy);
        ran.plan.addAll(wheres);
        for (int i = 0; i < conditions.size(); i++) {
            StepRan step = new StepRan();
            step.kind = 2;
            step.which = i;
            step.rule = conditions.get(i);
            step.as = user;
            ran.plan.add(step);
        }
        for (StepRan step : ran.plan) {
            if (step.rule != null) {
                step.cost = step.rule.cost;
                step.silent = step.rule.silent;
            }
        }
    }

    static void order(List<StepRan> plan) {
        int i = 1;
        while (i < plan.size()) {
            StepRan before = plan.get(i - 1);
            StepRan step = plan.get(i);
            boolean may = step.kind != 0 && step.cost < before.cost
                    && (step.silent || (before.silent && !(before.kind == 1 && before.barrier)));
            if (may) {
                plan.set(i - 1, step);
                plan.set(i, before);
                i = 1;
            } else {
                i++;
            }
        }
    }

    void run() {
        for (int row = 0; row < data.rows.size(); row++) {
            boolean passes = true;
            for (int i = 0; i < ran.plan.size() && passes; i++) {
                StepRan step = ran.plan.get(i);
                step.done++;
                step.told += reads(ran.tableAs, row) ? 1 : 0;
                if (step.kind == 0) {
                    passes = reads(ran.tableAs, row);
                    continue;
                }
                Moment m = new Moment();
                m.row = data.rows.get(row);
                m.user = step.as;
                m.has = has(step.as);
                passes = step.rule.holds(m);
                ran.peeks.addAll(m.peeks);
                if (m.failed) {
                    ran.failRow = row;
                    ran.failStep = i;
                    ran.answer.clear();
                    return;
                }
            }
            if (passes) {
                ran.answer.add(row);
            }
        }
    }

    int fault() {
        return faultPlace;
    }

    // ---- what is told

    int count(int what) {
        need(what >= 0 && what <= 12);
        int needless = 0;
        for (int i = 0; i < policies.size(); i++) {
            needless |= data.on.get(i) && weight(i) == 0 ? 1 << i : 0;
        }
        int[] all = {data.given.size(), columns, data.rows.size(), policies.size(), views.size(), sights(),
            needless, acts.size(), seen.size(), tape.length(), status[0], status[1], status[2]};
        return all[what];
    }

    static int bits(Set<Integer> set) {
        return set.stream().mapToInt(i -> 1 << i).sum();
    }

    int role(int role, int what) {
        needRole(role);
        need(what >= 0 && what <= 3);
        int of = 0;
        for (int i = 0; i < policies.size(); i++) {
            of |= isOf(i, role, 0) ? 1 << i : 0;
        }
        return new int[] {bits(data.given.get(role)), bits(has(role)), rowsRead(role), of}[what];
    }

    int cell(int row, int column) {
        needRow(row);
        need(column >= 0 && column < columns);
        return data.rows.get(row)[column];
    }

    int policy(int policy, int what) {
        need(policy >= 0 && policy < policies.size());
        need(what >= 0 && what <= 6);
        Policy p = policies.get(policy);
        return new int[] {p.restricts ? 1 : 0, p.role, p.command, data.on.get(policy) ? 1 : 0,
            p.using == null ? NONE : p.using.cost, p.check == null ? NONE : p.check.cost, weight(policy)}[what];
    }

    int view(int view, int what) {
        need(view >= 0 && view < views.size());
        need(what >= 0 && what <= 4);
        View v = views.get(view);
        return new int[] {v.owner, v.barrier ? 1 : 0, v.of, v.where.cost, v.where.silent ? 1 : 0}[what];
    }

    int asked(int what) {
        need(what >= 0 && what <= 7);
        if (ran == null) {
            return NONE;
        }
        int bits = ran.answer.stream().mapToInt(r -> 1 << r).sum();
        int sum = ran.peeks.stream().mapToInt(p -> p).sum();
        return new int[] {ran.failRow == NONE ? ran.answer.size() : NONE, bits, ran.failRow, ran.failStep,
            ran.plan.size(), ran.peeks.size(), sum, ran.tableAs}[what];
    }

    int step(int i, int what) {
        need(ran != null && i >= 0 && i < ran.plan.size() && what >= 0 && what <= 5);
        StepRan s = ran.plan.get(i);
        return new int[] {s.kind, s.which, s.cost, s.silent ? 1 : 0, s.told, s.done}[what];
    }

    // ---- writes and other acts

    void act() {
        acts.addLast(data.copy());
        if (acts.size() > 40) {
            acts.removeFirst();
        }
    }

    static boolean isCell(int number) {
        return number >= -99 && number <= 99;
    }

    int insert(int user, int... numbers) {
        needRole(user);
        int[] row = Arrays.copyOf(numbers, columns);
        if (data.rows.size() == 16 || !Arrays.stream(row).allMatch(Model::isCell) || !lets(user, 1, true, row)) {
            status[1]++;
            return NONE;
        }
        act();
        data.rows.add(row);
        return data.rows.size();
    }

    int update(int user, int row, int column, int number) {
        needRole(user);
        need(column >= 0 && column < columns);
        if (!isCell(number)) {
            status[1]++;
            return NONE;
        }
        if (row < 0 || row >= data.rows.size() || may(user, row, 2) == 0) {
            return 0;
        }
        int[] would = data.rows.get(row).clone();
        would[column] = number;
        if (!lets(user, 2, true, would)) {
            status[1]++;
            return NONE;
        }
        act();
        data.rows.set(row, would);
        return 1;
    }

    int delete(int user, int row) {
        needRole(user);
        if (row < 0 || row >= data.rows.size() || may(user, row, 3) == 0) {
            return 0;
        }
        act();
        data.rows.remove(row);
        return 1;
    }

    boolean grant(int role, int other, boolean is) {
        needRole(role);
        needRole(other);
        boolean isSo = data.given.get(role).contains(other) == is;
        if (role == other || isSo || (is && has(other).contains(role))) {
            status[1]++;
            return false;
        }
        act();
        if (is) {
            data.given.get(role).add(other);
        } else {
            data.given.get(role).remove(other);
        }
        return true;
    }

    boolean turn(int policy, boolean on) {
        need(policy >= 0 && policy < policies.size());
        if (data.on.get(policy) == on) {
            status[1]++;
            return false;
        }
        act();
        data.on.set(policy, on);
        return true;
    }

    int undo() {
        if (acts.isEmpty()) {
            return NONE;
        }
        data = acts.removeLast();
        return acts.size();
    }

    // ---- what can be worked out

    int readers(int row) {
        needRow(row);
        int bits = 0;
        for (int role = 0; role < data.given.size(); role++) {
            bits |= reads(role, row) ? 1 << role : 0;
        }
        return bits;
    }

    int toSee(int user, int row) {
        needRole(user);
        needRow(row);
        Set<Integer> given = data.given.get(user);
        int best = NONE;
        for (int set = 0; set < 1 << data.given.size(); set++) {
            Set<Integer> more = new HashSet<>(given);
            for (int role = 0; role < data.given.size(); role++) {
                if ((set >> role & 1) == 1) {
                    more.add(role);
                }
            }
            data.given.set(user, more);
            if (reads(user, row) && (best == NONE || Integer.bitCount(set) < Integer.bitCount(best))) {
                best = set;
            }
        }
        data.given.set(user, given);
        return best;
    }

    int escapes(int user, int what) {
        needRole(user);
        need(what == 0 || what == 1);
        int n = 0;
        int first = NONE;
        for (int row = 0; row < data.rows.size(); row++) {
            for (int column = 0; column < columns; column++) {
                for (int number = -9; number <= 9; number++) {
                    if (data.rows.get(row)[column] == number) {
                        continue;
                    }
                    Data before = data.copy();
                    int[] counts = status.clone();
                    ArrayDeque<Data> kept = new ArrayDeque<>(acts);
                    boolean is = update(user, row, column, number) == 1 && !reads(user, row);
                    data = before;
                    status = counts;
                    acts = kept;
                    if (is) {
                        n++;
                        first = first == NONE ? 1000 * row + 100 * column + number + 50 : first;
                    }
                }
            }
        }
        return what == 0 ? n : first;
    }

    int may(int user, int row, int what) {
        needRole(user);
        needRow(row);
        need(what == 0 || what == 2 || what == 3);
        return reads(user, row) && lets(user, what, false, data.rows.get(row)) ? 1 : 0;
    }

    int see(int user, int row, boolean is) {
        needRole(user);
        needRow(row);
        if (seen.size() == 8) {
            status[2]++;
            return NONE;
        }
        seen.add(new Seen(user, row, is));
        return seen.size();
    }

    void forget() {
        seen.clear();
    }

    boolean allSo() {
        return seen.stream().allMatch(s -> s.row < data.rows.size() && reads(s.user, s.row) == s.is);
    }

    interface Trial {
        void by(int row, int column, int number);
    }

    void eachMeant(Trial trial) {
        for (int row = 0; row < data.rows.size(); row++) {
            for (int column = 0; column < columns; column++) {
                int was = data.rows.get(row)[column];
                for (int number = -9; number <= 9; number++) {
                    if (number != was) {
                        data.rows.get(row)[column] = number;
                        if (allSo()) {
                            trial.by(row, column, number);
                        }
                        data.rows.get(row)[column] = was;
                    }
                }
            }
        }
    }

    int meant(int what) {
        need(what >= 0 && what <= 2);
        List<Integer> all = new ArrayList<>();
        eachMeant((row, column, number) -> all.add(1000 * row + 100 * column + number + 50));
        return new int[] {all.size(), all.isEmpty() ? NONE : all.get(0), allSo() ? 1 : 0}[what];
    }

    int look(int what) {
        need(what == 0 || what == 1);
        int best = NONE;
        int most = 0;
        for (int role = 0; role < data.given.size(); role++) {
            int user = role;
            Set<Integer> sets = new HashSet<>();
            eachMeant((row, column, number) -> sets.add(rowsRead(user)));
            if (sets.size() > most) {
                most = sets.size();
                best = role;
            }
        }
        return what == 0 ? best : most;
    }

    int lapses(int user, int row, int tenths) {
        needRole(user);
        needRow(row);
        sane(tenths >= 0 && tenths <= 10);
        return lapse(user, row, tenths, 0);
    }

    int lapse(int user, int row, int tenths, int from) {
        if (from == policies.size()) {
            return reads(user, row) ? 1 : 0;
        }
        if (!data.on.get(from)) {
            return lapse(user, row, tenths, from + 1);
        }
        int stays = lapse(user, row, tenths, from + 1);
        data.on.set(from, false);
        int lapses = lapse(user, row, tenths, from + 1);
        data.on.set(from, true);
        return stays * (10 - tenths) + lapses * tenths;
    }

    long seed;

    int draw(int n) {
        seed = (seed * 1103515245L + 12345L) & 0xffffffffL;
        return (int) ((seed / 65536L) % 32768L % n);
    }

    int years(int firstSeed, int n, int what) {
        need(what >= 0 && what <= 2);
        sane(n >= 0 && n <= 60);
        Data before = data.copy();
        int[] counts = status.clone();
        ArrayDeque<Data> keptOnes = new ArrayDeque<>(acts);
        seed = firstSeed & 0xffffffffL;
        int done = 0;
        for (int i = 0; i < n && !data.given.isEmpty(); i++) {
            int user = draw(data.given.size());
            int deed = draw(3);
            if (deed == 0) {
                int[] row = new int[4];
                for (int c = 0; c < columns; c++) {
                    row[c] = draw(10);
                }
                done += insert(user, row) == NONE ? 0 : 1;
            } else if (!data.rows.isEmpty()) {
                int row = draw(data.rows.size());
                if (deed == 1) {
                    int column = draw(columns);
                    done += update(user, row, column, draw(10)) == 1 ? 1 : 0;
                } else {
                    done += delete(user, row);
                }
            }
        }
        int answer = new int[] {done, data.rows.size(), sights()}[what];
        data = before;
        status = counts;
        acts = keptOnes;
        return answer;
    }

    void image() {
        keptData = data.copy();
        keptActs = new ArrayList<>();
        acts.forEach(a -> keptActs.add(a.copy()));
        keptSeen = new ArrayList<>(seen);
    }

    boolean restore() {
        if (keptData == null) {
            return false;
        }
        data = keptData.copy();
        acts.clear();
        keptActs.forEach(a -> acts.addLast(a.copy()));
        seen = new ArrayList<>(keptSeen);
        return true;
    }
}
