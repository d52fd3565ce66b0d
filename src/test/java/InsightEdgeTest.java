/**
 * What is told and worked out, promises 6 to 10 and 19 to 28: each sentence of the document that names a
 * boundary case stands above the test that it has of its own.
 */
public final class InsightEdgeTest {
    private static final Due due = new Due();
    private static final String SIX = "role;".repeat(6);
    /** Six ROLES, sixteen ROWS of 99 in four COLUMNS. */
    private static final String FULL = "columns 4;" + SIX + "row 99 99 99 99;".repeat(16);

    private static void meant(PolicyRows x, int many, int first, int without) {
        due.row("meant", x::meant, many, first, without);
    }

    private static void look(PolicyRows x, int role, int sets) {
        due.row("look", x::look, role, sets);
    }

    // ---- count, role, cell, policy, view

    /** "SIGHTS: how many couples of a ROLE and a ROW there are so that it READS it" */
    private static void sightsAreNoneToNinetySix() {
        due.is("of a new object", new PolicyRows().count(5), 0);
        due.is("without rows", due.told("role;permit all read;").count(5), 0);
        due.is("without roles", due.told("row 1 2;permit all read;").count(5), 0);
        due.is("without policies", due.told("role;row 1 2;").count(5), 0);
        due.is("one", due.told("role;row 1 2;permit all read;").count(5), 1);
        PolicyRows x = due.told(FULL + "permit all read;");
        due.is("all", x.count(5), 96);
        for (int role = 0; role < 6; role++) {
            due.is("rows read", x.role(role, 2), 65535);
        }
        for (int row = 0; row < 16; row++) {
            due.is("readers", x.readers(row), 63);
        }
        due.is("the last alone", due.told(FULL + "permit 5 read using a=99 and d=99;").count(5), 16);
    }

    /** "WEIGHT of a POLICY: how many couples would change, were it switched" */
    private static void weightsAreNoneToNinetySix() {
        PolicyRows x = due.told(FULL + "permit all read;restrict all insert;");
        due.is("all", x.policy(0, 6), 96);
        due.is("of another command", x.policy(1, 6), 0);
        x.turn(0, false);
        due.is("all, were it on", x.policy(0, 6), 96);
        due.is("still off", x.policy(0, 3), 0);
        PolicyRows two = due.told(FULL + "permit all read;permit 5 read;restrict 4 any using 0;restrict 3 read using 0;");
        due.row("weights", policy -> two.policy(policy, 6), 48, 0, 16, 16);
        two.turn(0, false);
        due.row("weights", policy -> two.policy(policy, 6), 48, 16, 0, 0);
        due.is("without rows", due.told(SIX + "permit all read;").policy(0, 6), 0);
        due.is("without roles", due.told("row 1 2;permit all read;").policy(0, 6), 0);
    }

    /** "NEEDLESS: POLICIES that are ON by whose being OFF none would" */
    private static void needlessAreNoneToEight() {
        String eight = "permit all read;".repeat(8);
        due.is("without policies", due.told("role;row 1 2;").count(6), 0);
        due.is("all of eight alike", due.told(SIX + "row 1 2;" + eight).count(6), 255);
        due.is("all without rows", due.told(SIX + eight).count(6), 255);
        due.is("all without roles", due.told("row 1 2;" + eight).count(6), 255);
        PolicyRows x = due.told("role;row 1 2;permit all read;permit all read;permit all insert;");
        due.is("each of two, and of another command", x.count(6), 7);
        x.turn(0, false);
        due.is("what is off is none; the other matters", x.count(6), 4);
        x.turn(1, false);
        due.is("none reads", x.count(6), 4);
        due.is("a number that no role has", due.told("role;row 1 2;permit all read using me=1;").count(6), 1);
        due.is("numbers that no row has", due.told("role;row 1 2;permit all read using a=0 and b=0;").count(6), 1);
        PolicyRows gone = due.told("columns 1;role;row 1;row 5;permit all any using a=1 or a=5;permit all any using a=5;permit all read using a=5;");
        due.is("delete", gone.delete(0, 1), 1);
        due.is("numbers of a row that is there no more", gone.count(6), 6);
        due.is("the last matters alone", due.told("role;row 1 2;" + "restrict all read;".repeat(7) + "permit all read;").count(6), 127);
    }

    /** "0 those it was given (bits), 1 those it HAS (bits), 2 ROWS that it READS (bits), 3 POLICIES OF it and READ (bits)" */
    private static void bitsOfARole() {
        PolicyRows x = due.told(SIX + "row 0 0;".repeat(15) + "row 1 1;permit 5 read using b=1;restrict all insert;permit all any using 0;"
            + "restrict all read;permit 0 read;permit 4 any using 0;restrict 5 update;restrict 5 any;");
        due.row("role 5", what -> x.role(5, what), 0, 32, 32768, 1 + 4 + 8 + 128);
        due.row("role 0", what -> x.role(0, what), 0, 1, 65535, 4 + 8 + 16);
        x.grant(5, 0, true);
        x.grant(5, 4, true);
        due.row("role 5", what -> x.role(5, what), 17, 49, 65535, 1 + 4 + 8 + 16 + 32 + 128);
        due.row("a role that reads none", what -> x.role(1, what), 0, 2, 0, 12);
    }

    /** As above, asked once, of a ROLE that was not asked for yet. */
    private static void bitsOfARoleAskedOnce() {
        int[][] want = {{0, 1, 0, 0}, {1, 3, 1, 1}, {0, 4, 0, 2}};
        for (int role = 0; role < 3; role++) {
            for (int what = 0; what < 4; what++) {
                PolicyRows x = due.told("role;role 0;role;row 1 2;permit 1 read;restrict 2 read;");
                due.is("role(" + role + ", " + what + ")", x.role(role, what), want[role][what]);
            }
        }
    }

    /** "NONE: ALL", "4: ANY", "(NONE: without)" */
    private static void detailsOfAPolicy() {
        PolicyRows x = due.told(SIX + "permit all any;restrict 5 read using a;permit 0 delete check a+b;permit 0 insert using 0 check 0;"
            + "permit all update using not a<b;");
        due.row("policy 0", what -> x.policy(0, what), 0, -1, 4, 1, -1, -1, 0);
        due.row("policy 1", what -> x.policy(1, what), 1, 5, 0, 1, 1, -1, 0);
        due.row("policy 2", what -> x.policy(2, what), 0, 0, 3, 1, -1, 3, 0);
        due.row("policy 3", what -> x.policy(3, what), 0, 0, 1, 1, 1, 1, 0);
        due.row("policy 4", what -> x.policy(4, what), 0, -1, 2, 1, 4, -1, 0);
    }

    /** "0 the OWNER (NONE: the CALLER's), 1 whether a BARRIER (1), 2 the VIEW it is OF (NONE), 3 COST of WHERE, 4 whether that is SILENT (1)" */
    private static void detailsOfAView() {
        PolicyRows x = due.told(SIX + "view caller where 0;view owner 5 barrier of 0 where a/0;view owner 0 of 1 where a/1;");
        due.row("view 0", what -> x.view(0, what), -1, 0, -1, 1, 1);
        due.row("view 1", what -> x.view(1, what), 5, 1, 0, 3, 0);
        due.row("view 2", what -> x.view(2, what), 0, 0, 1, 3, 1);
    }

    // ---- TO SEE

    /** "the fewest ROLES that it should be GRANTED besides (whatever rounds that makes) so that it does: of as few the least as bits; none" */
    private static void fewestRolesToSee() {
        PolicyRows five = due.told(SIX + "row 1 2;permit all read using has 0 and has 1 and has 2 and has 3 and has 4 and has 5;");
        for (int role = 0; role < 6; role++) {
            due.is("all five others", five.toSee(role, 0), 63 - (1 << role));
        }
        PolicyRows least = due.told(SIX + "row 1 2;permit 4 read;permit 2 read;permit 3 read;");
        due.row("the least of three", user -> least.toSee(user, 0), 4, 4, 0, 0, 0, 4);
        PolicyRows fewest = due.told(SIX + "row 1 2;permit all read using has 0 and has 1 or has 4 or has 5 and has 3;");
        due.row("one, though two are less as bits", user -> fewest.toSee(user, 0), 2, 1, 16, 16, 0, 8);
        PolicyRows pairs = due.told(SIX + "row 1 2;permit all read using has 1 and has 4 or has 2 and has 3;");
        due.row("of two by two the least as bits", user -> pairs.toSee(user, 0), 12, 16, 8, 4, 2, 12);
        PolicyRows round = due.told("role;role 0;role 1;row 1 2;permit 2 read;");
        due.row("by a round", user -> round.toSee(user, 0), 4, 4, 0);
        due.is("it isn't granted", round.role(0, 1) * 10 + round.count(7), 10);
    }

    /** "0: it READS it; NONE: none" */
    private static void noneToSee() {
        due.is("without a policy", due.told("role;row 1 2;").toSee(0, 0), -1);
        due.is("reads it", due.told("role;row 1 2;permit all read;").toSee(0, 0), 0);
        due.is("none is allowed", due.told(SIX + "row 1 2;permit all read;restrict all read using 0;").toSee(5, 0), -1);
        PolicyRows more = due.told(SIX + "row 1 2;permit 1 read;restrict 1 read using has 2;restrict 2 read using has 3;restrict 3 read using 0;");
        due.is("each one takes away", more.toSee(0, 0), -1);
        PolicyRows me = due.told(SIX + "row 1 2;permit all read using me=3;");
        due.row("another one's number", user -> me.toSee(user, 0), -1, -1, -1, 0, -1, -1);
        PolicyRows not = due.told("role;role 0;row 1 2;permit all read using not has 0;");
        due.row("what it HAS is not taken", user -> not.toSee(user, 0), -1, -1);
    }

    // ---- ESCAPES

    /** "numbers (-9 to 9, another one than it is)": what could be written, from the least to the greatest. */
    private static void escapesGoFromMinusNineToNine() {
        int[] cells = {-99, -10, -9, -8, 0, 8, 9, 10, 99};
        for (int cell : cells) {
            String number = cell < 0 ? "0-" + -cell : "" + cell;
            PolicyRows x = due.told("columns 1;role;row " + cell + ";permit all any using a=" + number + " check 1;");
            due.is("escapes from " + cell, x.escapes(0, 0), cell < -9 || cell > 9 ? 19 : 18);
            due.is("the first", x.escapes(0, 1), cell == -9 ? 42 : 41);
        }
        PolicyRows least = due.told("columns 1;role;row 1;permit all any using 0-9<a check 1;");
        due.row("the least alone", what -> least.escapes(0, what), 1, 41);
        PolicyRows greatest = due.told("columns 1;role;row 1;permit all any using a<9 check 1;");
        due.row("the greatest alone", what -> greatest.escapes(0, what), 1, 59);
        PolicyRows beyond = due.told("columns 1;role;row 1;permit all any using a<10 and 0-10<a check 1;");
        due.row("none beyond", what -> beyond.escapes(0, what), 0, -1);
        PolicyRows zero = due.told("columns 1;role;row 1;permit all any using a check 1;");
        due.row("zero alone", what -> zero.escapes(0, what), 1, 50);
    }

    /** "how many; the first (by ROWS, COLUMNS, numbers: 1000 by the ROW, 100 by the COLUMN, and the number and 50; none)" */
    private static void escapesOfEmptyAndFull() {
        due.row("without rows", what -> due.told("role;permit all any;").escapes(0, what), 0, -1);
        due.row("without policies", what -> due.told("role;row 1 2;").escapes(0, what), 0, -1);
        PolicyRows all = due.told(FULL + "permit all any using a=99 and b=99 and c=99 and d=99 check 1;");
        due.row("all", what -> all.escapes(5, what), 16 * 4 * 19, 41);
        StringBuilder rows = new StringBuilder("columns 4;role;");
        for (int row = 0; row < 16; row++) {
            rows.append("row ").append(row).append(" 0 0 0;");
        }
        PolicyRows last = due.told(rows + "permit all read using not d=9;permit all update using a=15 check 1;");
        due.row("the last alone", what -> last.escapes(0, what), 1, 15359);
        PolicyRows first = due.told(rows + "permit all read using not a=0-9;permit all update using a=0 check 1;");
        due.row("the first alone", what -> first.escapes(0, what), 1, 41);
    }

    /** "to which it could UPDATE them, so that it READS that ROW no more" */
    private static void escapesAreUpdatesOutOfSight() {
        String[] policies = {"permit all read using a=5;", "permit all any using a=5;", "permit all read using a=5;permit all update;",
            "permit all read using a=5;permit all update using a=4;", "permit all read using a=5;permit all update check a=6;",
            "permit all read using a=4;permit all update;", "permit all read;permit all update;",
            "permit all read using a=5;permit all update;restrict all update check a<0;", "permit 1 read using a=5;permit all update;",
            "permit all any check 1;restrict all read using 1/(a-6) or 1;"};
        int[] many = {0, 0, 18, 0, 1, 0, 0, 9, 0, 1};
        for (int i = 0; i < policies.length; i++) {
            PolicyRows x = due.told("columns 1;role;role;row 5;" + policies[i]);
            due.is("escapes by " + policies[i], x.escapes(0, 0), many[i]);
            due.is("all as ever", x.cell(0, 0) * 100 + x.count(7) * 10 + x.count(11), 500);
        }
    }

    /** "Whether a USER may: 0 READ, 2 READ and UPDATE (by USING), 3 READ and DELETE a ROW (1)" */
    private static void whatOneMay() {
        String[] policies = {"", "permit all read;", "permit all update;permit all delete;", "permit all any;", "permit all any check 0;",
            "permit all any using a=1 check 1;", "permit all read;permit all update;", "permit all read;permit all delete;",
            "permit all any;restrict all update using 0;", "permit all any;restrict all insert using 0;"};
        int[] may = {0, 100, 0, 111, 111, 0, 110, 101, 101, 111};
        for (int i = 0; i < policies.length; i++) {
            PolicyRows x = due.told("columns 1;role;row 5;" + policies[i]);
            due.is("may by " + policies[i], x.may(0, 0, 0) * 100 + x.may(0, 0, 2) * 10 + x.may(0, 0, 3), may[i]);
        }
    }

    // ---- SEEN, MEANT, LOOK NEXT

    /** "SEEN (at most 8)", "NONE (STATUS 2): there are 8" */
    private static void seenAreAtMostEight() {
        PolicyRows x = due.told("columns 1;role;row 5;permit all read using a=5;");
        for (int time = 0; time < 2; time++) {
            due.is("none", x.count(8), 0);
            for (int i = 1; i <= 8; i++) {
                due.is("see", x.see(0, 0, true), i);
                due.is("seen", x.count(8), i);
            }
            due.is("the ninth", x.see(0, 0, false), -1);
            due.is("the tenth", x.see(0, 0, true), -1);
            due.is("refused", x.count(12), 2 + 2 * time);
            due.is("the ninth counts for nothing", x.meant(2), 1);
            due.none("no such role, ahead", () -> x.see(1, 0, true));
            due.none("no such row, ahead", () -> x.see(0, 1, true));
            due.is("refused no more", x.count(12), 2 + 2 * time);
            x.forget();
        }
        x.forget();
        due.is("nothing to forget", x.count(8), 0);
        for (int i = 0; i < 7; i++) {
            x.see(0, 0, true);
        }
        due.is("the eighth", x.see(0, 0, false), 8);
        due.is("counts", x.meant(2), 0);
        x.forget();
        due.is("is forgotten, too", x.see(0, 0, true) + x.meant(2), 2);
        due.is("no other status", x.count(10) + x.count(11), 0);
    }

    /** "All that is SEEN is forgotten.": of an empty object, too. */
    private static void forgettingNothing() {
        PolicyRows x = new PolicyRows();
        x.forget();
        due.is("seen", x.count(8), 0);
        meant(x, 0, -1, 1);
    }

    /** "CELLS and numbers (-9 to 9, another one than it is) by one of which all SEEN would be so: how many; the first" */
    private static void meantGoFromMinusNineToNine() {
        int[] cells = {-99, -10, -9, 0, 9, 10, 99};
        for (int cell : cells) {
            PolicyRows x = due.told("columns 1;role;row " + cell + ";");
            meant(x, cell < -9 || cell > 9 ? 19 : 18, cell == -9 ? 42 : 41, 1);
        }
        PolicyRows x = due.told("columns 1;role;row 5;row 20;permit all read using a=9 or a=0-9;");
        x.see(0, 0, true);
        meant(x, 2, 41, 0);
        x.forget();
        x.see(0, 1, true);
        meant(x, 2, 1041, 0);
        PolicyRows greatest = due.told("columns 1;role;row 5;permit all read using 8<a;");
        greatest.see(0, 0, true);
        meant(greatest, 1, 59, 0);
        PolicyRows beyond = due.told("columns 1;role;row 5;permit all read using a=10 or a=0-10;");
        beyond.see(0, 0, true);
        meant(beyond, 0, -1, 0);
        look(beyond, -1, 0);
    }

    /** As above, by none, by all and by the last of them. */
    private static void meantOfEmptyAndFull() {
        PolicyRows none = new PolicyRows();
        meant(none, 0, -1, 1);
        look(none, -1, 0);
        PolicyRows roles = due.told("role;permit all read;");
        meant(roles, 0, -1, 1);
        look(roles, -1, 0);
        PolicyRows rows = due.told("row 5 5;");
        meant(rows, 36, 41, 1);
        look(rows, -1, 0);
        PolicyRows full = due.told(FULL + "permit all read;");
        meant(full, 16 * 4 * 19, 41, 1);
        look(full, 0, 1);
        for (int role = 0; role < 6; role++) {
            full.see(role, 15 - role, true);
        }
        meant(full, 16 * 4 * 19, 41, 1);
        full.see(5, 0, false);
        meant(full, 0, -1, 0);
        PolicyRows eight = due.told("columns 1;role;row 5;row 6;permit all read using a<6;");
        for (int i = 0; i < 7; i++) {
            eight.see(0, 0, true);
        }
        meant(eight, 14 + 18, 41, 1);
        due.is("the eighth", eight.see(0, 1, true), 8);
        meant(eight, 15, 1041, 0);
        look(eight, 0, 1);
        PolicyRows last = due.told(FULL + "permit all read using d=9;");
        last.see(5, 15, true);
        meant(last, 1, 15359, 0);
        look(last, 0, 1);
    }

    /** "whether it is so without (1)", "(Of a ROW that is there no more it is never so.)" */
    private static void seenOfARowThatIsThereNoMore() {
        PolicyRows x = due.told("columns 1;role;row 1;row 2;row 3;permit all any;");
        x.see(0, 2, true);
        meant(x, 54, 41, 1);
        due.is("the last is deleted", x.delete(0, 2), 1);
        meant(x, 0, -1, 0);
        look(x, -1, 0);
        due.is("undo", x.undo(), 0);
        meant(x, 54, 41, 1);
        due.is("another is deleted", x.delete(0, 0), 1);
        meant(x, 0, -1, 0);
        due.is("one is inserted in its place", x.insert(0, 7, 0, 0, 0), 3);
        meant(x, 54, 41, 1);
        x.forget();
        x.see(0, 2, false);
        due.is("never so, not even not read", x.delete(0, 2) + x.meant(2), 1);
        meant(x, 0, -1, 0);
        PolicyRows inserted = due.told("columns 1;role;permit all any;");
        inserted.insert(0, 5, 0, 0, 0);
        inserted.see(0, 0, true);
        meant(inserted, 18, 41, 1);
        inserted.undo();
        meant(inserted, 0, -1, 0);
        due.is("what is seen is not undone", inserted.count(8), 1);
    }

    /** "LOOK NEXT: the ROLE that by these READS most unlike sets of ROWS (of like ones the least): how many unlike sets; none without any" */
    private static void lookNext() {
        PolicyRows alike = due.told("columns 1;" + SIX + "row 5;permit all read using a<0;");
        look(alike, 0, 2);
        PolicyRows last = due.told("columns 1;" + SIX + "row 5;permit 5 read using a<0;");
        look(last, 5, 2);
        PolicyRows two = due.told("columns 1;" + SIX + "row 5;permit 4 read using a<0;permit 2 read using a<0;");
        look(two, 2, 2);
        PolicyRows most = due.told("columns 1;" + SIX + "row 50;".repeat(16) + "permit 3 read using a<50;permit 4 read using a<9;permit 5 read;");
        look(most, 4, 17);
        PolicyRows never = due.told("columns 1;" + SIX + "row 50;".repeat(16) + "permit 3 read using a=50;");
        look(never, 3, 16);
        never.see(3, 7, false);
        look(never, 0, 1);
        never.see(3, 8, false);
        look(never, -1, 0);
        PolicyRows same = due.told("columns 2;role;row 5 5;permit all read using a<0 or b<0;");
        look(same, 0, 2);
    }

    // ---- LAPSES

    /** "is OFF with so many tenths (0 to 10)", "as so many of 10 to the power of how many are ON" */
    private static void lapsesFromNoneToAll() {
        int power = 1;
        for (int policies = 0; policies <= 8; policies++) {
            PolicyRows x = due.told("role;row 1 2;" + "permit all read;".repeat(policies));
            int off = 1;
            for (int i = 0; i < policies; i++) {
                off *= 3;
            }
            due.is("0 tenths of " + policies, x.lapses(0, 0, 0), policies == 0 ? 0 : power);
            due.is("3 tenths of " + policies, x.lapses(0, 0, 3), power - off);
            due.is("10 tenths of " + policies, x.lapses(0, 0, 10), 0);
            power *= 10;
        }
        for (int tenths = 0; tenths <= 10; tenths++) {
            PolicyRows x = due.told("role;row 1 2;permit all read;restrict all read using 0;");
            due.is("the one on, the other off", x.lapses(0, 0, tenths), (10 - tenths) * tenths);
        }
        PolicyRows x = due.told("role;row 1 2;permit all read;");
        for (int tenths : new int[] {-1, 11, -10, 100, Integer.MIN_VALUE, Integer.MAX_VALUE}) {
            due.unfit("lapses(0, 0, " + tenths + ")", () -> x.lapses(0, 0, tenths));
            due.none("no such role, ahead", () -> x.lapses(1, 0, tenths));
            due.none("no such row, ahead", () -> x.lapses(0, 1, tenths));
        }
    }

    /** "each POLICY that is ON (of any COMMAND)" */
    private static void lapsesOfAnyCommand() {
        PolicyRows x = due.told("role;role;row 1 2;permit all read;permit all insert;restrict 1 read using 0;");
        due.is("three are on", x.lapses(0, 0, 2), 800);
        due.is("by the other", x.lapses(1, 0, 2), 160);
        x.turn(1, false);
        due.is("two are on", x.lapses(0, 0, 2), 80);
        x.turn(0, false);
        due.is("what is off stays off", x.lapses(0, 0, 2), 0);
        x.turn(2, false);
        due.is("none is on", x.lapses(0, 0, 0), 0);
    }

    // ---- YEARS

    private static int seed;

    private static int draw(int n) {
        seed = seed * 1103515245 + 12345;
        return (seed >>> 16) % 32768 % n;
    }

    /** How many are done, and how many ROWS there are then, if all may do all. */
    private static int[] free(int firstSeed, int n, int roles, int columns, int rowsAhead) {
        seed = firstSeed;
        int done = 0;
        int rows = rowsAhead;
        for (int year = 0; year < n && roles > 0; year++) {
            draw(roles);
            int deed = draw(3);
            if (deed == 0) {
                for (int column = 0; column < columns; column++) {
                    draw(10);
                }
                done += rows < 16 ? 1 : 0;
                rows += rows < 16 ? 1 : 0;
            } else if (rows > 0) {
                draw(rows);
                if (deed == 1) {
                    draw(columns);
                    draw(10);
                } else {
                    rows--;
                }
                done++;
            }
        }
        return new int[] {done, rows, rows * roles};
    }

    /** "(drawn though it can't be)", "(1, 2: without ROWS nothing more is drawn)", "(an int that wraps)", "n (0 to 60)" */
    private static void yearsOfEmptyAndFull() {
        int[] seeds = {0, 1, -1, 2, 7, 77, 12345, 65535, 65536, 1103515245, Integer.MIN_VALUE, Integer.MAX_VALUE, -1103515245};
        for (int rows = 0; rows <= 16; rows += 4) {
            for (int columns = 1; columns <= 4; columns++) {
                int roles = rows == 16 ? 6 : 1 + columns;
                String text = "columns " + columns + ";" + "role;".repeat(roles) + ("row" + " 5".repeat(columns) + ";").repeat(rows);
                PolicyRows x = due.told(text + "permit all any;");
                for (int s : seeds) {
                    for (int n : new int[] {0, 1, 60}) {
                        int[] want = free(s, n, roles, columns, rows);
                        due.row("years(" + s + ", " + n + ", .) of " + text, what -> x.years(s, n, what), want);
                    }
                }
                due.is("all as ever", x.count(2) * 100 + x.count(7) + x.count(11), rows * 100);
            }
        }
    }

    /** As above, where what is INSERTED must be an even number, and what is UPDATED to another one than 7: so that numbers count. */
    private static void yearsByNumbers() {
        PolicyRows x = due.told("columns 1;role;role;row 0;permit all read;permit all insert using a/2*2=a;permit all update check not a=7;");
        for (int s = -40; s < 40; s++) {
            seed = s;
            int done = 0;
            int rows = 1;
            for (int year = 0; year < 25; year++) {
                draw(2);
                int deed = draw(3);
                if (deed == 0) {
                    boolean isEven = draw(10) % 2 == 0;
                    done += isEven && rows < 16 ? 1 : 0;
                    rows += isEven && rows < 16 ? 1 : 0;
                } else {
                    draw(rows);
                    if (deed == 1) {
                        draw(1);
                        done += draw(10) == 7 ? 0 : 1;
                    }
                }
            }
            int first = s;
            due.row("years(" + s + ", 25, .)", what -> x.years(first, 25, what), done, rows, 2 * rows);
        }
        due.is("all as ever", x.count(2) * 100 + x.count(7) + x.count(11), 100);
    }

    /** "without ROLES nothing is drawn", and nothing is done. */
    private static void yearsWithoutRoles() {
        PolicyRows none = new PolicyRows();
        due.row("years of a new object", what -> none.years(5, 60, what), 0, 0, 0);
        PolicyRows rows = due.told("row 1 2;row 3 4;permit all any;");
        due.row("years without roles", what -> rows.years(5, 60, what), 0, 2, 0);
    }

    /** "NoSuchElementException: another what. IllegalArgumentException (behind that): n." */
    private static void yearsThatCanNotBe() {
        PolicyRows x = due.told("role;row 1 2;permit all any;");
        for (int n : new int[] {-1, 61, 62, 100, Integer.MIN_VALUE, Integer.MAX_VALUE}) {
            for (int what = 0; what < 3; what++) {
                int w = what;
                due.unfit("years(1, " + n + ", " + w + ")", () -> x.years(1, n, w));
            }
            due.none("years(1, " + n + ", 3)", () -> x.years(1, n, 3));
            due.none("years(1, " + n + ", -1)", () -> x.years(1, n, -1));
        }
        due.row("years(1, 0, .)", what -> x.years(1, 0, what), 0, 1, 1);
        due.is("years(1, 60, 0)", x.years(1, 60, 0), free(1, 60, 1, 2, 1)[0]);
    }

    /** "(All as ever behind it": also ACTS, what is SEEN, the QUERY and the image, when the years fill forty ACTS. */
    private static void allAsEverBehindYears() {
        PolicyRows x = due.told("columns 1;role;row 5;permit all any;");
        x.update(0, 0, 0, 6);
        x.image();
        x.see(0, 0, true);
        Due.query(x, 0, -1, "1");
        for (int s = 0; s < 30; s++) {
            x.years(s, 60, s % 3);
        }
        due.row("count", x::count, 1, 1, 1, 1, 0, 1, 0, 1, 1, 0, 0, 0, 0);
        due.is("the query", x.asked(0), 1);
        due.is("undo", x.undo(), 0);
        due.is("cell", x.cell(0, 0), 5);
        due.is("restore", x.restore(), true);
        due.is("cell", x.cell(0, 0) * 10 + x.count(8), 60);
    }

    public static void main(String[] args) {
        sightsAreNoneToNinetySix();
        weightsAreNoneToNinetySix();
        needlessAreNoneToEight();
        bitsOfARole();
        bitsOfARoleAskedOnce();
        detailsOfAPolicy();
        detailsOfAView();
        fewestRolesToSee();
        noneToSee();
        escapesGoFromMinusNineToNine();
        escapesOfEmptyAndFull();
        escapesAreUpdatesOutOfSight();
        whatOneMay();
        seenAreAtMostEight();
        forgettingNothing();
        meantGoFromMinusNineToNine();
        meantOfEmptyAndFull();
        seenOfARowThatIsThereNoMore();
        lookNext();
        lapsesFromNoneToAll();
        lapsesOfAnyCommand();
        yearsOfEmptyAndFull();
        yearsByNumbers();
        yearsWithoutRoles();
        yearsThatCanNotBe();
        allAsEverBehindYears();
        due.end("InsightEdgeTest");
    }
}
