import java.util.NoSuchElementException;

/**
 * Every call with every argument too small or too great, on an empty object and on one that has of all: it throws
 * what the document says, "nothing changes", and no STATUS counts it.
 */
public final class WrongInputTest {
    private static final Due due = new Due();
    private static final int MIN = Integer.MIN_VALUE;
    private static final int MAX = Integer.MAX_VALUE;

    private interface Use {
        long of(PolicyRows x);
    }

    /** A call of which one argument varies. */
    private interface Try {
        long of(PolicyRows x, int wrong);
    }

    /** Two ROLES, two COLUMNS, three ROWS, three POLICIES, two VIEWS, a QUERY of four STEPS, ACTS, SEEN, an image, a tape. */
    private static PolicyRows prepared() {
        PolicyRows x = due.told("role;role 0;row 1 2;row 3 4;permit all any using a<9;restrict 1 read using b<9;restrict 0 insert check a;"
            + "view caller where a<5;view owner 1 barrier of 0 where b<7;");
        due.is("query", Due.query(x, 1, 1, "peek(a)"), 0);
        due.is("insert", x.insert(0, 5, 6, 0, 0), 3);
        due.is("see", x.see(0, 0, true), 1);
        x.image();
        due.is("update", x.update(0, 2, 0, 7), 1);
        due.is("refused", x.turn(0, true), false);
        Due.feed(x, "role;");
        return x;
    }

    /** All that can be asked of an object, as a text. */
    private static String stateOf(PolicyRows x) {
        StringBuilder state = new StringBuilder();
        for (int what = 0; what < 13; what++) {
            state.append(x.count(what)).append(' ');
        }
        state.append("fault ").append(x.fault()).append(" asked");
        for (int what = 0; what < 8; what++) {
            state.append(' ').append(x.asked(what));
        }
        for (int i = 0; i < x.asked(4); i++) {
            state.append(" step");
            for (int what = 0; what < 6; what++) {
                state.append(' ').append(x.step(i, what));
            }
        }
        for (int role = 0; role < x.count(0); role++) {
            state.append(" role ").append(x.role(role, 0)).append(' ').append(x.role(role, 2));
        }
        for (int row = 0; row < x.count(2); row++) {
            for (int column = 0; column < x.count(1); column++) {
                state.append(" cell ").append(x.cell(row, column));
            }
        }
        for (int policy = 0; policy < x.count(3); policy++) {
            state.append(" on ").append(x.policy(policy, 3));
        }
        return state.append(" meant ").append(x.meant(0)).append(' ').append(x.meant(2)).toString();
    }

    private static void wrong(PolicyRows x, String call, Class<? extends RuntimeException> want, Use use) {
        String before = stateOf(x);
        due.fails(call, want, () -> use.of(x));
        due.is("all behind " + call, stateOf(x), before);
    }

    private static void none(String call, int[] wrongs, Try tried) {
        for (int wrong : wrongs) {
            wrong(prepared(), call + " by " + wrong, NoSuchElementException.class, x -> tried.of(x, wrong));
        }
    }

    private static void unfit(String call, int[] wrongs, Try tried) {
        for (int wrong : wrongs) {
            wrong(prepared(), call + " by " + wrong, IllegalArgumentException.class, x -> tried.of(x, wrong));
        }
    }

    /** Too small and too great for what there are so many of. */
    private static int[] beyond(int many) {
        return new int[] {MIN, MIN + 1, -1000, -2, -1, many, many + 1, 1000, MAX - 1, MAX};
    }

    private static void wrongRoles() {
        int[] roles = beyond(2);
        none("query(role)", roles, (x, w) -> x.query(w, -1, 20));
        none("role(role)", roles, (x, w) -> x.role(w, 0));
        none("insert(role)", roles, (x, w) -> x.insert(w, 1, 1, 1, 1));
        none("update(role)", roles, (x, w) -> x.update(w, 0, 0, 1));
        none("delete(role)", roles, (x, w) -> x.delete(w, 0));
        none("grant(role, )", roles, (x, w) -> x.grant(w, 0, true) ? 1 : 0);
        none("grant(role, )", roles, (x, w) -> x.grant(w, 0, false) ? 1 : 0);
        none("grant(, role)", roles, (x, w) -> x.grant(0, w, true) ? 1 : 0);
        none("grant(, role)", roles, (x, w) -> x.grant(0, w, false) ? 1 : 0);
        none("grant(role, the same)", roles, (x, w) -> x.grant(w, w, true) ? 1 : 0);
        none("toSee(role)", roles, (x, w) -> x.toSee(w, 0));
        none("escapes(role)", roles, (x, w) -> x.escapes(w, 0));
        none("may(role)", roles, (x, w) -> x.may(w, 0, 0));
        none("see(role)", roles, (x, w) -> x.see(w, 0, true));
        none("lapses(role)", roles, (x, w) -> x.lapses(w, 0, 1));
    }

    private static void wrongRows() {
        int[] rows = beyond(3);
        none("cell(row)", rows, (x, w) -> x.cell(w, 0));
        none("readers(row)", rows, (x, w) -> x.readers(w));
        none("toSee(row)", rows, (x, w) -> x.toSee(0, w));
        none("may(row)", rows, (x, w) -> x.may(0, w, 0));
        none("see(row)", rows, (x, w) -> x.see(0, w, false));
        none("lapses(row)", rows, (x, w) -> x.lapses(0, w, 1));
    }

    private static void wrongColumnsPoliciesViews() {
        none("cell(column)", beyond(2), (x, w) -> x.cell(0, w));
        none("update(column)", beyond(2), (x, w) -> x.update(0, 0, w, 1));
        none("update(column) ahead of the row", beyond(2), (x, w) -> x.update(0, -1, w, 1));
        none("update(column) ahead of the number", beyond(2), (x, w) -> x.update(0, 0, w, 100));
        none("policy(policy)", beyond(3), (x, w) -> x.policy(w, 0));
        none("turn(policy)", beyond(3), (x, w) -> x.turn(w, false) ? 1 : 0);
        none("turn(policy)", beyond(3), (x, w) -> x.turn(w, true) ? 1 : 0);
        none("view(view)", beyond(2), (x, w) -> x.view(w, 0));
        int[] targets = {MIN, -1000, -3, -2, 2, 3, 1000, MAX};
        none("query(, view)", targets, (x, w) -> x.query(0, w, 20));
        none("query(, view) ahead of n", targets, (x, w) -> x.query(0, w, 21));
        none("step(i)", beyond(4), (x, w) -> x.step(w, 0));
    }

    private static void wrongWhats() {
        none("count", beyond(13), (x, w) -> x.count(w));
        none("role(what)", beyond(4), (x, w) -> x.role(0, w));
        none("policy(what)", beyond(7), (x, w) -> x.policy(0, w));
        none("view(what)", beyond(5), (x, w) -> x.view(0, w));
        none("asked", beyond(8), (x, w) -> x.asked(w));
        none("step(what)", beyond(6), (x, w) -> x.step(0, w));
        none("escapes(what)", beyond(2), (x, w) -> x.escapes(0, w));
        none("may(what)", new int[] {MIN, -1, 1, 4, 5, MAX}, (x, w) -> x.may(0, 0, w));
        none("meant", beyond(3), (x, w) -> x.meant(w));
        none("look", beyond(2), (x, w) -> x.look(w));
        none("years(what)", beyond(3), (x, w) -> x.years(1, 1, w));
        none("years(what) ahead of n", beyond(3), (x, w) -> x.years(1, 61, w));
    }

    private static void wrongNumbers() {
        unfit("tell", beyond(21), (x, w) -> x.tell(w));
        unfit("query(n)", beyond(21), (x, w) -> x.query(0, -1, w));
        unfit("query(n) of a view", beyond(21), (x, w) -> x.query(1, 1, w));
        unfit("lapses(tenths)", beyond(11), (x, w) -> x.lapses(0, 0, w));
        none("lapses(, row) ahead of tenths", beyond(3), (x, w) -> x.lapses(0, w, 11));
        none("lapses(role) ahead of tenths", beyond(2), (x, w) -> x.lapses(w, 0, -1));
        unfit("years(n)", beyond(61), (x, w) -> x.years(1, w, 0));
    }

    /** On an object that has nothing every number is too great, 0, too. */
    private static void ofAnEmptyObject() {
        Use[] uses = {x -> x.query(0, -1, 0), x -> x.query(0, 0, -1), x -> x.role(0, 0), x -> x.cell(0, 0), x -> x.policy(0, 0), x -> x.view(0, 0),
            x -> x.step(0, 0), x -> x.insert(0, 1, 1, 1, 1), x -> x.update(0, 0, 0, 100), x -> x.delete(0, 0), x -> x.grant(0, 0, false) ? 1 : 0,
            x -> x.turn(0, true) ? 1 : 0, x -> x.readers(0), x -> x.toSee(0, 0), x -> x.escapes(0, 0), x -> x.may(0, 0, 0), x -> x.see(0, 0, true),
            x -> x.lapses(0, 0, 11)};
        for (int i = 0; i < uses.length; i++) {
            wrong(new PolicyRows(), "use " + i + " of a new object", NoSuchElementException.class, uses[i]);
            PolicyRows told = due.told("");
            wrong(told, "use " + i + " of an empty text", NoSuchElementException.class, uses[i]);
        }
        wrong(new PolicyRows(), "tell(1)", IllegalArgumentException.class, x -> x.tell(1));
        wrong(new PolicyRows(), "tell(-1)", IllegalArgumentException.class, x -> x.tell(-1));
    }

    /** What is refused without throwing changes nothing but its STATUS. */
    private static void refused() {
        PolicyRows x = prepared();
        String before = stateOf(x);
        due.is("insert", x.insert(1, 100, 0, 0, 0), -1);
        due.is("insert", x.insert(1, 9, 0, 0, 0), -1);
        due.is("update", x.update(0, 0, 0, -100), -1);
        due.is("update", x.update(0, 0, 0, 9), -1);
        due.is("turn", x.turn(1, true), false);
        due.is("grant", x.grant(0, 1, true), false);
        due.is("grant", x.grant(1, 0, true), false);
        due.is("refused acts", x.count(11), 8);
        due.is("update of no row", x.update(0, 3, 0, 1) + x.delete(0, 3), 0);
        due.is("refused acts", x.count(11), 8);
        due.is("others", x.count(10) + x.count(12), 0);
        due.is("all but that", stateOf(x), before.replaceFirst("^((\\S+ ){11})1 ", "$18 "));
        due.is("texts", x.query(0, -1, 5) + Due.tell(x, "x") + Due.query(x, 0, 0, "c"), 7);
        due.is("refused texts", x.count(10) * 100 + x.count(11) * 10 + x.count(12), 380);
        for (int i = 2; i <= 10; i++) {
            due.is("see", x.see(0, 0, true), i > 8 ? -1 : i);
        }
        due.is("refused sights", x.count(10) * 100 + x.count(11) * 10 + x.count(12), 382);
    }

    public static void main(String[] args) {
        wrongRoles();
        wrongRows();
        wrongColumnsPoliciesViews();
        wrongWhats();
        wrongNumbers();
        ofAnEmptyObject();
        refused();
        due.end("WrongInputTest");
    }
}
