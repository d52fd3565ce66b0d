/**
 * WRITES, ACTS and images, promises 13 to 18, 29 and 30: each sentence of the document that names a boundary
 * case stands above the test that it has of its own.
 */
public final class WriteEdgeTest {
    private static final Due due = new Due();
    private static final int[] NO_NUMBERS = {-100, 100, -101, 101, 128, -128, 255, Integer.MIN_VALUE, Integer.MAX_VALUE};
    private static final String FREE = "columns 1;role;role;row 1;row 2;row 3;permit all any;";

    /** How many calls of ACTS were refused, how many ACTS are kept, how many ROWS there are. */
    private static void stands(PolicyRows x, int refused, int acts, int rows) {
        due.is("refused", x.count(11), refused);
        due.is("acts", x.count(7), acts);
        due.is("rows", x.count(2), rows);
        due.is("nothing else was refused", x.count(10) + x.count(12), 0);
    }

    /** The first CELL of each ROW, as digits. */
    private static int cells(PolicyRows x) {
        int digits = 0;
        for (int row = 0; row < x.count(2); row++) {
            digits = digits * 10 + x.cell(row, 0);
        }
        return digits;
    }

    // ---- insert

    /** "INSERTED: how many ROWS there are; numbers behind as many as COLUMNS count for nothing." */
    private static void numbersBehindTheColumnsCountForNothing() {
        int[] far = {Integer.MIN_VALUE, 100, Integer.MAX_VALUE};
        for (int columns = 1; columns <= 4; columns++) {
            PolicyRows x = due.told("columns " + columns + ";role;permit all insert;");
            int rows = 0;
            for (int f : far) {
                rows++;
                due.is("insert into " + columns, x.insert(0, 1, columns > 1 ? 2 : f, columns > 2 ? 3 : f, columns > 3 ? 4 : f), rows);
                for (int column = 0; column < columns; column++) {
                    due.is("cell", x.cell(rows - 1, column), column + 1);
                }
            }
            stands(x, 0, 3, 3);
        }
        PolicyRows undone = due.told("columns 4;role;permit all any;");
        undone.insert(0, 1, 2, 3, 4);
        undone.undo();
        due.is("columns 1", Due.tell(undone, "columns 1;role;permit all any using b;"), 3);
        stands(due.told(FREE), 0, 0, 3);
    }

    /** "a number isn't -99 to 99" */
    private static void insertedNumbersGoToNinetyNine() {
        PolicyRows x = due.told("columns 4;role;permit all insert;");
        due.is("the least", x.insert(0, -99, -99, -99, -99), 1);
        due.is("the greatest", x.insert(0, 99, 99, 99, 99), 2);
        due.row("cell(0, .)", column -> x.cell(0, column), -99, -99, -99, -99);
        due.row("cell(1, .)", column -> x.cell(1, column), 99, 99, 99, 99);
        int refused = 0;
        for (int number : NO_NUMBERS) {
            due.is("the first", x.insert(0, number, 0, 0, 0), -1);
            due.is("the second", x.insert(0, 0, number, 0, 0), -1);
            due.is("the third", x.insert(0, 0, 0, number, 0), -1);
            due.is("the fourth", x.insert(0, 0, 0, 0, number), -1);
            refused += 4;
            stands(x, refused, 2, 2);
        }
    }

    /** "there are 16" */
    private static void theSeventeenthRow() {
        PolicyRows x = due.told("columns 1;role;" + "row 1;".repeat(15) + "permit all any;");
        due.is("the sixteenth", x.insert(0, 5, 0, 0, 0), 16);
        due.is("the seventeenth", x.insert(0, 6, 0, 0, 0), -1);
        stands(x, 1, 1, 16);
        due.is("the last", x.cell(15, 0), 5);
        due.is("one is deleted", x.delete(0, 0), 1);
        due.is("there is room again", x.insert(0, 7, 0, 0, 0), 16);
        due.is("full again", x.insert(0, 8, 0, 0, 0), -1);
        stands(x, 2, 3, 16);
        due.is("cells", x.cell(14, 0) * 10 + x.cell(15, 0), 57);
        due.is("undo", x.undo() + x.undo() + x.undo(), 3);
        due.is("rows", x.count(2), 15);
        PolicyRows y = due.told("columns 1;role;permit all any;");
        due.is("the first", y.insert(0, 5, 0, 0, 0), 1);
    }

    /** "if of INSERT some that PERMITS, and all that RESTRICT, OF it, HOLD for it by CHECK (without CHECK by USING, without both they do)" */
    private static void whatPoliciesLetInsert() {
        String[] policies = {"", "restrict all insert;", "permit all insert;", "permit all any;", "permit all read;", "permit 1 insert;",
            "permit all insert using a=5;", "permit all insert using a=6;", "permit all insert check a=5;", "permit all insert check a=6;",
            "permit all insert using a=6 check a=5;", "permit all insert using a=5 check a=6;", "permit all insert check 1/0 or 1;",
            "permit all insert;restrict all insert;", "permit all insert;restrict all any using 0;", "permit all insert;restrict all any using 0 check 1;",
            "permit all insert;restrict all insert check 1/0 or 1;", "permit all insert;restrict all update using 0;",
            "permit all insert check 0;permit all any check me=0;", "permit all insert check has 0;restrict 1 insert using 0;"};
        int[] lets = {0, 0, 1, 1, 0, 0, 1, 0, 1, 0, 1, 0, 0, 1, 0, 1, 0, 1, 1, 1};
        for (int i = 0; i < policies.length; i++) {
            PolicyRows x = due.told("columns 1;role;role;" + policies[i]);
            due.is("insert by " + policies[i], x.insert(0, 5, 0, 0, 0), lets[i] == 1 ? 1 : -1);
            stands(x, 1 - lets[i], lets[i], lets[i]);
        }
    }

    // ---- update

    /** "NONE (STATUS 1): not -99 to 99 (ahead of that)", "NoSuchElementException (ahead): no such ROLE, COLUMN" */
    private static void updatedNumbersGoToNinetyNine() {
        PolicyRows x = due.told(FREE + "restrict 1 read using 0;");
        due.is("the least", x.update(0, 0, 0, -99), 1);
        due.is("cell", x.cell(0, 0), -99);
        due.is("the greatest", x.update(0, 0, 0, 99), 1);
        due.is("cell", x.cell(0, 0), 99);
        int refused = 0;
        for (int number : NO_NUMBERS) {
            due.is("of a row", x.update(0, 0, 0, number), -1);
            due.is("of a row that isn't read", x.update(1, 0, 0, number), -1);
            due.is("of no row", x.update(0, 3, 0, number), -1);
            refused += 3;
            stands(x, refused, 2, 3);
            due.none("of no role", () -> x.update(2, 0, 0, number));
            due.none("of no column", () -> x.update(0, 0, 1, number));
            due.none("of no column", () -> x.update(0, 3, -1, number));
            stands(x, refused, 2, 3);
        }
    }

    /** "0: it is as if there were no such ROW (also if there is none; that is no ACT, and counts for no STATUS, as by delete())" */
    private static void aRowThatThereIsNot() {
        PolicyRows x = due.told(FREE);
        for (int row : new int[] {-1, 3, 4, 16, 64, Integer.MIN_VALUE, Integer.MAX_VALUE}) {
            due.is("update of row " + row, x.update(0, row, 0, 5), 0);
            due.is("delete of row " + row, x.delete(0, row), 0);
        }
        stands(x, 0, 0, 3);
        due.is("the last row", x.update(0, 2, 0, 5), 1);
        PolicyRows none = due.told("role;permit all any;");
        due.is("without rows", none.update(0, 0, 0, 5) + none.delete(0, 0), 0);
        stands(none, 0, 0, 0);
    }

    /** "A ROW that the USER doesn't READ, or may not UPDATE, DELETE by USING, is as one that there isn't." */
    private static void aRowThatIsAsOneThatThereIsNot() {
        String[] policies = {"permit all update;permit all delete;", "permit all read;", "permit all read;permit all update using 0;permit all delete using 0;",
            "permit all any;restrict all update using 0;restrict all delete using 0;", "permit all any;restrict all read using 0;",
            "permit all any using 0 check 1;", "permit all any using 1/0 or 1;", "permit 1 any;", "permit all any;restrict all any using a<5;",
            "permit all any;restrict 0 update using 1/0;restrict 0 delete using 1/0;"};
        for (String some : policies) {
            PolicyRows x = due.told("columns 1;role;role;row 5;" + some);
            due.is("update by " + some, x.update(0, 0, 0, 6), 0);
            due.is("delete by " + some, x.delete(0, 0), 0);
            due.is("may by " + some, x.may(0, 0, 2) + x.may(0, 0, 3), 0);
            stands(x, 0, 0, 1);
            due.is("cell", x.cell(0, 0), 5);
        }
    }

    /** "HOLD by USING for the ROW as it was, and some (the same or not), all, by CHECK as above, as it would be" */
    private static void usingAsItWasAndCheckAsItWouldBe() {
        String[] policies = {"permit all update;", "permit all update using a=5;", "permit all update using a=5 check a=6;", "permit all update check a=6;",
            "permit all update check a=5;", "permit all update using a=5 check 0;permit all update using 0 check a=6;",
            "permit all update using a=5;permit all update using a=6;", "permit all update;restrict all update using a=5 check a=6;",
            "permit all update;restrict all update using a=5;", "permit all update;restrict all update check a=5;",
            "permit all update check 1/(a-6) or 1;", "permit all update using 9/a;restrict all any check a<7;", "permit all update check a=me+6;"};
        int[] answers = {1, -1, 1, 1, -1, 1, 1, 1, -1, -1, -1, 1, 1};
        for (int i = 0; i < policies.length; i++) {
            PolicyRows x = due.told("columns 1;role;row 5;permit all read;" + policies[i]);
            due.is("update by " + policies[i], x.update(0, 0, 0, 6), answers[i]);
            boolean isDone = answers[i] == 1;
            stands(x, isDone ? 0 : 1, isDone ? 1 : 0, 1);
            due.is("cell", x.cell(0, 0), isDone ? 6 : 5);
        }
        PolicyRows y = due.told("columns 4;role;row 1 2 3 4;permit all any check a+b+c+d<14;");
        due.is("the other columns count", y.update(0, 0, 3, 8), -1);
        due.is("the other columns count", y.update(0, 0, 3, 7), 1);
        due.row("cell(0, .)", column -> y.cell(0, column), 1, 2, 3, 7);
    }

    /** "(An UPDATE to the same number is one.)" */
    private static void anUpdateToTheSameNumber() {
        PolicyRows x = due.told(FREE);
        due.is("the same", x.update(0, 1, 0, 2), 1);
        stands(x, 0, 1, 3);
        due.is("undo", x.undo(), 0);
        due.is("cells", cells(x), 123);
        PolicyRows y = due.told("columns 1;role;row 5;permit all read;permit all update check a<5;");
        due.is("check doesn't let it", y.update(0, 0, 0, 5), -1);
        stands(y, 1, 0, 1);
    }

    // ---- delete

    /** "DELETED: a ROW, if the USER READS it, and of DELETE so by USING (ROWS behind it come up)": the first, one between, the last, the only one. */
    private static void rowsBehindComeUp() {
        int[] left = {23, 13, 12};
        for (int row = 0; row < 3; row++) {
            PolicyRows x = due.told(FREE);
            due.is("delete", x.delete(0, row), 1);
            due.is("cells", cells(x), left[row]);
            stands(x, 0, 1, 2);
            due.none("the last comes up", () -> x.cell(2, 0));
            due.is("undo", x.undo(), 0);
            due.is("cells", cells(x), 123);
        }
        PolicyRows all = due.told(FREE);
        due.is("all", all.delete(0, 1) + all.delete(0, 1) + all.delete(0, 0) + all.delete(0, 0), 3);
        stands(all, 0, 3, 0);
        due.is("undo", all.undo() * 10 + all.undo(), 21);
        due.is("cells", cells(all), 13);
        due.is("undo", all.undo() * 1000 + cells(all), 123);
        PolicyRows full = due.told("columns 1;role;" + "row 1;".repeat(8) + "row 2;".repeat(8) + "permit all any;");
        due.is("the first of sixteen", full.delete(0, 0), 1);
        due.is("rows", full.count(2) * 100 + full.cell(6, 0) * 10 + full.cell(7, 0), 1512);
        due.is("undo", full.undo(), 0);
        due.is("rows", full.count(2) * 100 + full.cell(7, 0) * 10 + full.cell(8, 0), 1612);
        for (int row = 0; row < 16; row++) {
            PolicyRows x = sixteen();
            due.is("delete", x.delete(0, row), 1);
            for (int behind = 0; behind < 15; behind++) {
                due.is("row " + behind + " without " + row, x.cell(behind, 3), behind < row ? behind : behind + 1);
            }
            due.is("undo", x.undo(), 0);
            for (int each = 0; each < 16; each++) {
                due.is("row " + each + " behind undo of " + row, x.cell(each, 0) * 100 + x.cell(each, 3), 1000 + 101 * each);
            }
        }
        PolicyRows check = due.told("columns 1;role;row 1;permit all any check 0;restrict all delete check 0;");
        due.is("by using alone", check.delete(0, 0), 1);
    }

    /** Sixteen ROWS, each with its number and 10, 20, 30 and nothing more, in four COLUMNS. */
    private static PolicyRows sixteen() {
        StringBuilder text = new StringBuilder("columns 4;role;role;permit all any;");
        for (int row = 0; row < 16; row++) {
            text.append("row ").append(row + 10).append(' ').append(row + 20).append(' ').append(row + 30).append(' ').append(row).append(';');
        }
        return due.told(text.toString());
    }

    // ---- grant, turn

    /** "False (STATUS 1): it is so, one would HAVE itself through others, both are one." */
    private static void whatIsNotGranted() {
        PolicyRows x = due.told("role;role 0;role 1;role 2;role 3;role 4;");
        int refused = 0;
        for (int role = 0; role < 6; role++) {
            due.is("both are one", x.grant(role, role, true), false);
            due.is("both are one", x.grant(role, role, false), false);
            refused += 2;
            for (int other = role + 1; other < 6; other++) {
                due.is("a round", x.grant(role, other, true), false);
                due.is("it is so", x.grant(role, other, false), false);
                refused += 2;
            }
            for (int other = 0; other < role - 1; other++) {
                due.is("had through others alone", x.grant(role, other, false), false);
                refused++;
            }
            if (role > 0) {
                due.is("it is so", x.grant(role, role - 1, true), false);
                refused++;
            }
        }
        stands(x, refused, 0, 0);
        due.is("revoked", x.grant(3, 2, false), true);
        due.is("no round any more", x.grant(0, 5, true), true);
        due.is("has", x.role(2, 1), 1 + 2 + 4 + 8 + 16 + 32);
        due.is("a round of six", x.grant(3, 2, true), false);
        due.is("a round of two", x.grant(0, 1, true), false);
        due.is("had already, given besides", x.grant(2, 0, true), true);
        stands(x, refused + 2, 3, 0);
    }

    /** "GRANTED (true): the first ROLE is given the other one, or REVOKED: true." */
    private static void whatIsGranted() {
        PolicyRows x = due.told("role;".repeat(6) + "row 1 2;permit 5 read;");
        due.is("given", x.grant(0, 5, true), true);
        due.is("given", x.role(0, 0) * 10 + x.role(0, 2), 321);
        due.is("once more", x.grant(0, 5, true), false);
        due.is("revoked", x.grant(0, 5, false), true);
        due.is("given", x.role(0, 0) * 10 + x.role(0, 2), 0);
        due.is("once more", x.grant(0, 5, false), false);
        stands(x, 2, 2, 1);
        for (int other = 0; other < 5; other++) {
            due.is("all others", x.grant(5, other, true), true);
        }
        due.is("given", x.role(5, 0), 31);
        due.is("undo", x.undo(), 6);
        due.is("given", x.role(5, 0), 15);
    }

    /** "Switched ON (true), OFF: true. False (STATUS 1): it is so." */
    private static void whatIsSwitched() {
        PolicyRows x = due.told("role;" + "permit all read;".repeat(8));
        for (int policy = 0; policy < 8; policy++) {
            due.is("on already", x.turn(policy, true), false);
            due.is("off", x.turn(policy, false), true);
            due.is("off already", x.turn(policy, false), false);
        }
        stands(x, 16, 8, 0);
        due.is("of it", x.role(0, 3), 0);
        due.is("the last on", x.turn(7, true), true);
        due.is("of it", x.role(0, 3), 128);
        stands(x, 16, 9, 0);
    }

    // ---- ACTS

    /** "ACTS (at most 40 are kept, the latest ones)" */
    private static void fortyActsAreKept() {
        PolicyRows x = due.told("columns 1;role;role;row 0;permit all any;");
        due.is("the first act", x.turn(0, false), true);
        due.is("the second", x.turn(0, true), true);
        for (int i = 3; i <= 40; i++) {
            due.is("update", x.update(0, 0, 0, i), 1);
            due.is("acts", x.count(7), i);
        }
        due.is("the 41st", x.grant(0, 1, true), true);
        due.is("acts", x.count(7), 40);
        due.is("the 42nd", x.grant(0, 1, false), true);
        due.is("acts", x.count(7), 40);
        for (int left = 39; left >= 0; left--) {
            due.is("undo", x.undo(), left);
        }
        due.is("no more", x.undo(), -1);
        due.is("no more", x.undo(), -1);
        due.is("the first two are done", x.policy(0, 3) * 100 + x.cell(0, 0) * 10 + x.role(0, 0), 100);
        stands(x, 0, 0, 1);
        due.is("acts go on", x.delete(0, 0), 1);
        stands(x, 0, 1, 0);
    }

    /** As above: an ACT of each kind is the oldest that is kept, and the first that isn't. */
    private static void theOldestActOfEachKind() {
        for (int kind = 0; kind < 5; kind++) {
            for (int more = 39; more <= 40; more++) {
                PolicyRows x = due.told("columns 1;role;role;row 7;row 8;permit all any;permit all read;");
                String before = told(x);
                act(x, kind);
                String behind = told(x);
                for (int i = 0; i < more; i++) {
                    due.is("turn", x.turn(1, i % 2 == 1), true);
                }
                due.is("acts", x.count(7), 40);
                for (int left = 39; left >= 0; left--) {
                    due.is("undo", x.undo(), left);
                }
                due.is("none", x.undo(), -1);
                due.is("kind " + kind + ", " + more + " more", told(x), more == 39 ? before : behind);
            }
        }
    }

    private static void act(PolicyRows x, int kind) {
        boolean isDone = kind == 0 ? x.insert(0, 9, 0, 0, 0) == 3 : kind == 1 ? x.update(0, 0, 0, 9) == 1
            : kind == 2 ? x.delete(0, 0) == 1 : kind == 3 ? x.grant(1, 0, true) : x.turn(0, false);
        due.is("act of kind " + kind, isDone, true);
    }

    private static String told(PolicyRows x) {
        return cells(x) + " " + x.role(0, 0) + " " + x.role(1, 0) + " " + x.policy(0, 3);
    }

    /** "They are UNDONE, the last one first.": one ACT of each kind upon each other. */
    private static void theLastActIsUndoneFirst() {
        for (int first = 0; first < 5; first++) {
            for (int second = 0; second < 5; second++) {
                if (first == second && first > 2) {
                    continue;
                }
                PolicyRows x = due.told("columns 1;role;role;row 7;row 8;row 9;permit all any;permit all any;");
                String before = told(x);
                actOf(x, first);
                String between = told(x);
                actOf(x, second);
                due.is("undo", x.undo(), 1);
                due.is("as between " + first + " and " + second, told(x), between);
                due.is("undo", x.undo(), 0);
                due.is("as before " + first + " and " + second, told(x), before);
            }
        }
    }

    private static void actOf(PolicyRows x, int kind) {
        int acts = x.count(7);
        switch (kind) {
            case 0 -> x.insert(0, 5, 0, 0, 0);
            case 1 -> x.update(0, 1, 0, 4);
            case 2 -> x.delete(0, 1);
            case 3 -> x.grant(1, 0, true);
            default -> x.turn(0, false);
        }
        due.is("acts behind kind " + kind, x.count(7), acts + 1);
    }

    /** "NONE: there is none." */
    private static void nothingToUndo() {
        PolicyRows x = new PolicyRows();
        due.is("of a new object", x.undo(), -1);
        PolicyRows y = due.told(FREE);
        due.is("of a text", y.undo(), -1);
        y.update(0, 0, 0, 100);
        y.delete(0, 3);
        y.turn(0, true);
        y.grant(0, 0, true);
        y.see(0, 0, true);
        y.forget();
        y.years(7, 60, 0);
        y.image();
        y.restore();
        due.is("of what was refused, or is no ACT", y.undo(), -1);
        stands(y, 3, 0, 3);
    }

    // ---- image, restore

    /** "False: there is none." */
    private static void noImage() {
        PolicyRows x = new PolicyRows();
        due.is("of a new object", x.restore(), false);
        x.image();
        due.is("of an image of nothing", x.restore(), true);
        due.is("told", Due.tell(x, FREE), 0);
        due.is("gone by a text", x.restore(), false);
        stands(x, 0, 0, 3);
    }

    /** "ROWS, what ROLES were given, which POLICIES are ON, ACTS and what is SEEN": from empty to full, and back. */
    private static void imagesOfEmptyAndFull() {
        PolicyRows x = due.told("columns 1;role;role;permit all any;permit all any;");
        x.image();
        for (int i = 1; i <= 16; i++) {
            due.is("insert", x.insert(0, i, 0, 0, 0), i);
        }
        fill(x);
        due.row("count", x::count, 2, 1, 16, 2, 0, 32, 0, 40, 8);
        due.is("restore to empty", x.restore(), true);
        due.row("count", x::count, 2, 1, 0, 2, 0, 0, 3, 0, 0);
        due.is("given", x.role(0, 0), 0);
        due.is("nothing to undo", x.undo(), -1);
        for (int i = 1; i <= 16; i++) {
            due.is("insert", x.insert(0, i, 0, 0, 0), i);
        }
        fill(x);
        x.image();
        for (int i = 0; i < 16; i++) {
            due.is("delete", x.delete(0, 0), 1);
        }
        x.forget();
        for (int time = 0; time < 2; time++) {
            due.is("restore to full", x.restore(), true);
            due.row("count", x::count, 2, 1, 16, 2, 0, 32, 0, 40, 8);
            due.is("the last cell", x.cell(15, 0), 16);
            for (int left = 39; left >= 0; left--) {
                due.is("undo", x.undo(), left);
            }
            due.is("what went ahead of the forty", x.count(2) * 10 + x.role(0, 0), 20);
            due.is("no more", x.undo(), -1);
        }
    }

    /** 26 ACTS: with sixteen ahead of them two more than are kept. */
    private static void fill(PolicyRows x) {
        for (int i = 0; i < 25; i++) {
            due.is("turn", x.turn(1, i % 2 == 1), true);
        }
        due.is("grant", x.grant(0, 1, true), true);
        for (int i = 1; i <= 8; i++) {
            due.is("see", x.see(1, 0, true), i);
        }
    }

    /** As above: each CELL of each ROW, and of what is SEEN who, which ROW and whether. */
    private static void imagesOfEachCell() {
        PolicyRows x = sixteen();
        x.see(1, 15, true);
        x.see(0, 3, true);
        x.image();
        x.forget();
        x.see(0, 0, false);
        x.see(1, 1, false);
        for (int row = 0; row < 16; row++) {
            due.is("delete", x.delete(0, 0), 1);
        }
        for (int row = 0; row < 16; row++) {
            due.is("insert", x.insert(0, -1, -2, -3, -4), row + 1);
        }
        due.is("seen otherwise", x.meant(2), 0);
        due.is("restore", x.restore(), true);
        for (int row = 0; row < 16; row++) {
            int of = row;
            due.row("cells of row " + row, column -> x.cell(of, column), row + 10, row + 20, row + 30, row);
        }
        due.is("seen", x.count(8) * 10 + x.meant(2), 21);
        due.is("off", x.turn(0, false), true);
        due.is("seen no more", x.meant(2), 0);
        PolicyRows who = due.told("columns 1;role;role;row 1;row 2;permit 1 read using a=2;");
        who.see(1, 1, true);
        who.see(0, 0, false);
        who.image();
        who.forget();
        who.see(0, 0, true);
        who.see(1, 1, false);
        due.is("not so", who.meant(2), 0);
        due.is("restore", who.restore(), true);
        due.is("so", who.meant(2), 1);
    }

    /** "in place of another one (not the QUERY)"; STATUS and the tape are none of it. */
    private static void whatAnImageLeavesOut() {
        PolicyRows x = due.told(FREE);
        x.image();
        due.is("update", x.update(0, 0, 0, 9), 1);
        x.image();
        due.is("update", x.update(0, 0, 0, 8), 1);
        due.is("refused", x.update(0, 0, 0, 100), -1);
        due.is("query", Due.query(x, 0, -1, "1,1"), 0);
        Due.feed(x, "x");
        due.is("restore", x.restore(), true);
        due.is("of the second", cells(x), 923);
        due.is("the query, the tape, the status stay", x.asked(4) * 1000 + x.count(9) * 10 + x.count(11), 3201);
        due.is("undo", x.undo(), 0);
        due.is("of the text", cells(x), 123);
        due.is("restore again", x.restore(), true);
        due.is("of the second", cells(x), 923);
        due.is("a query with a fault leaves it", x.query(0, -1, 1), 3);
        due.is("a text with a fault leaves it", x.tell(0) + Due.tell(x, "x"), 1);
        due.is("gone by the text without", x.restore(), false);
    }

    public static void main(String[] args) {
        numbersBehindTheColumnsCountForNothing();
        insertedNumbersGoToNinetyNine();
        theSeventeenthRow();
        whatPoliciesLetInsert();
        updatedNumbersGoToNinetyNine();
        aRowThatThereIsNot();
        aRowThatIsAsOneThatThereIsNot();
        usingAsItWasAndCheckAsItWouldBe();
        anUpdateToTheSameNumber();
        rowsBehindComeUp();
        whatIsNotGranted();
        whatIsGranted();
        whatIsSwitched();
        fortyActsAreKept();
        theOldestActOfEachKind();
        theLastActIsUndoneFirst();
        nothingToUndo();
        noImage();
        imagesOfEmptyAndFull();
        imagesOfEachCell();
        whatAnImageLeavesOut();
        due.end("WriteEdgeTest");
    }
}
