/** The promises one by one, with answers worked out by hand; FaultTest has 3 to 5, RuleTest the rules. */
public final class PromiseTest {
    private static final Due due = new Due();

    /**
     * Roles HAVE 1, 3, 4, 15 (bits). Rows that roles 0 to 3 READ: 3, 7, 9, 13. The last policy matters
     * to nobody who READS.
     */
    private static final String TABLE = "role;role 0;role;role 1 2;row 1 5;row 2 -4;row 3 0;row 4 9;"
        + "permit all read using a<3;permit 1 read using a=3;restrict 2 read using not b<0;"
        + "permit 2 any using a=4 check b<20;permit 0 delete;";

    private static void counts(PolicyRows x, int... want) {
        for (int what = 0; what < want.length; what++) {
            due.is("count(" + what + ")", x.count(what), want[what]);
        }
    }

    private static void newObject() {
        PolicyRows x = new PolicyRows();
        counts(x, 0, 2, 0, 0, 0, 0, 0, 0, 0, 0, 0, 0, 0);
        due.is("fault()", x.fault(), -1);
        due.is("undo()", x.undo(), -1);
        due.is("restore()", x.restore(), false);
        due.is("NONE", PolicyRows.NONE, -1);
        for (int what = 0; what < 8; what++) {
            due.is("asked(" + what + ")", x.asked(what), -1);
        }
        due.is("meant(0)", x.meant(0), 0);
        due.is("meant(1)", x.meant(1), -1);
        due.is("meant(2)", x.meant(2), 1);
        due.is("look(0)", x.look(0), -1);
        due.is("look(1)", x.look(1), 0);
        due.is("years", x.years(1, 60, 0) + x.years(1, 60, 1) + x.years(1, 60, 2), 0);
        x.forget();
        x.image();
        due.is("restore() of nothing", x.restore(), true);
        due.none("role", () -> x.role(0, 0));
        due.none("cell", () -> x.cell(0, 0));
        due.none("policy", () -> x.policy(0, 0));
        due.none("view", () -> x.view(0, 0));
        due.none("step", () -> x.step(0, 0));
        due.none("insert", () -> x.insert(0, 1, 1, 1, 1));
        due.none("update", () -> x.update(0, 0, 0, 0));
        due.none("delete", () -> x.delete(0, 0));
        due.none("grant", () -> x.grant(0, 0, true) ? 1 : 0);
        due.none("turn", () -> x.turn(0, true) ? 1 : 0);
        due.none("see", () -> x.see(0, 0, true));
    }

    private static void tape() {
        PolicyRows x = new PolicyRows();
        due.is("feed", x.feed(0x726f6c65, 0x3b726f77, 0x20312032, 0x3b202020, 0x20202020), 20);
        due.is("count(9)", x.count(9), 20);
        due.is("tell of the first bytes alone", x.tell(5), 0);
        counts(x, 1, 2, 0, 0, 0, 0, 0, 0, 0, 0);
        for (int i = 1; i <= 35; i++) {
            due.is("feed to the brim", x.feed(0x20202020, 0x20202020, 0x20202020, 0x20202020, 0x20202020), 20 * i);
        }
        due.is("feed beyond", x.feed(0, 0, 0, 0, 0), -1);
        due.is("count(9)", x.count(9), 700);
        due.unfit("tell(701)", () -> x.tell(701));
        due.is("tell(700)", x.tell(700), 0);
        due.is("count(9)", x.count(9), 0);
        due.is("count(0)", x.count(0), 0);
        due.is("highest byte first", x.feed(0x80726f6c, 0, 0, 0, 0), 20);
        due.is("a byte above 127 is no token", x.tell(2), 1);
        due.is("its place", x.fault(), 0);
    }

    /** A text is all anew: nothing of the one ahead, nor of the one before that, shines through. */
    private static void anew() {
        PolicyRows x = due.told("columns 3;role;role 0;role 0 1;row 1 2 3;row 4 5 6;row 7 8 9;restrict all any using 0 check 0;"
            + "restrict all any;view owner 1 barrier where 0;view caller barrier of 0 where a<b;");
        x.turn(0, false);
        x.grant(1, 0, false);
        x.see(0, 2, true);
        due.is("tell a second", Due.tell(x, TABLE), 0);
        x.turn(0, false);
        x.see(0, 2, true);
        x.delete(0, 0);
        due.is("tell a third", Due.tell(x, "role;role;role;row 9;"), 1);
        due.is("tell a third", Due.tell(x, "role;role;role;row 8 9;permit 0 read;permit all insert;view caller where me;view caller where b;"), 0);
        counts(x, 3, 2, 1, 2, 2, 1, 2, 0, 0, 0, 1, 0, 0);
        for (int role = 0; role < 3; role++) {
            due.is("given", x.role(role, 0), 0);
            due.is("reads", x.role(role, 2), role == 0 ? 1 : 0);
            due.is("of it", x.role(role, 3), role == 0 ? 1 : 0);
        }
        for (int i = 0; i < 2; i++) {
            due.is("restricts", x.policy(i, 0), 0);
            due.is("using, check", x.policy(i, 4) + x.policy(i, 5), -2);
            due.is("barrier, of, owner", x.view(i, 0) + x.view(i, 1) + x.view(i, 2), -2);
            due.is("where", x.view(i, 3), 1);
        }
        due.is("tell a fourth", Due.tell(x, ""), 0);
        counts(x, 0, 2, 0, 0, 0, 0, 0, 0, 0, 0, 1, 0, 0);
    }

    private static void counted() {
        PolicyRows x = due.told(TABLE);
        counts(x, 4, 2, 4, 5, 0, 10, 16, 0, 0, 0, 0, 0, 0);
        due.none("count(13)", () -> x.count(13));
        due.none("count(-1)", () -> x.count(-1));
        int[][] roles = {{0, 1, 3, 1}, {1, 3, 7, 3}, {0, 4, 9, 13}, {6, 15, 13, 15}};
        for (int role = 0; role < 4; role++) {
            for (int what = 0; what < 4; what++) {
                due.is("role(" + role + ", " + what + ")", x.role(role, what), roles[role][what]);
            }
        }
        due.none("role(4, 0)", () -> x.role(4, 0));
        due.none("role(-1, 0)", () -> x.role(-1, 0));
        due.none("role(0, 4)", () -> x.role(0, 4));
        due.none("role(0, -1)", () -> x.role(0, -1));
        due.is("cell(1, 1)", x.cell(1, 1), -4);
        due.is("cell(3, 0)", x.cell(3, 0), 4);
        due.none("cell(4, 0)", () -> x.cell(4, 0));
        due.none("cell(-1, 0)", () -> x.cell(-1, 0));
        due.none("cell(0, 2)", () -> x.cell(0, 2));
        due.none("cell(0, -1)", () -> x.cell(0, -1));
    }

    private static void policies() {
        PolicyRows x = due.told(TABLE);
        int[][] want = {{0, -1, 0, 1, 3, -1, 6}, {0, 1, 0, 1, 3, -1, 2}, {1, 2, 0, 1, 4, -1, 2}, {0, 2, 4, 1, 3, 3, 2},
            {0, 0, 3, 1, -1, -1, 0}};
        for (int policy = 0; policy < 5; policy++) {
            for (int what = 0; what < 7; what++) {
                due.is("policy(" + policy + ", " + what + ")", x.policy(policy, what), want[policy][what]);
            }
        }
        due.none("policy(5, 0)", () -> x.policy(5, 0));
        due.none("policy(-1, 0)", () -> x.policy(-1, 0));
        due.none("policy(0, 7)", () -> x.policy(0, 7));
        due.none("policy(0, -1)", () -> x.policy(0, -1));
        x.turn(0, false);
        due.is("policy(0, 3) off", x.policy(0, 3), 0);
        due.is("weight of what is off", x.policy(0, 6), 6);
        due.is("weight of a restriction without its permit", x.policy(2, 6), 0);
        due.is("needless: what is off isn't", x.count(6), 4 + 16);
        due.is("sights", x.count(5), 4);
        PolicyRows y = due.told("role;role;row 1 1;row 2 2;permit 0 read using a=2;permit all read using me=0;permit 1 read using me=1;");
        due.is("needless by another", y.count(6), 1);
        due.is("weight", y.policy(1, 6), 1);
        due.is("weight of the last", y.policy(2, 6), 2);
        PolicyRows commands = due.told("permit all read;permit all insert;permit all update;permit all delete;restrict all any;");
        for (int policy = 0; policy < 5; policy++) {
            due.is("policy(" + policy + ", 2)", commands.policy(policy, 2), policy);
        }
    }

    private static void views() {
        PolicyRows x = due.told("role;role;view caller where a;view owner 1 barrier of 0 where peek(a)<b;view caller of 0 where a/2;");
        int[][] want = {{-1, 0, -1, 1, 1}, {1, 1, 0, 4, 0}, {-1, 0, 0, 3, 1}};
        for (int view = 0; view < 3; view++) {
            for (int what = 0; what < 5; what++) {
                due.is("view(" + view + ", " + what + ")", x.view(view, what), want[view][what]);
            }
        }
        due.none("view(3, 0)", () -> x.view(3, 0));
        due.none("view(-1, 0)", () -> x.view(-1, 0));
        due.none("view(0, 5)", () -> x.view(0, 5));
        due.none("view(0, -1)", () -> x.view(0, -1));
    }

    private static void steps(PolicyRows x, int[][] want) {
        due.is("asked(4)", x.asked(4), want.length);
        for (int i = 0; i < want.length; i++) {
            for (int what = 0; what < want[i].length; what++) {
                due.is("step(" + i + ", " + what + ")", x.step(i, what), want[i][what]);
            }
        }
        due.none("step behind the last", () -> x.step(want.length, 0));
        due.none("step ahead of the first", () -> x.step(-1, 0));
        due.none("step(0, 6)", () -> x.step(0, 6));
        due.none("step(0, -1)", () -> x.step(0, -1));
    }

    private static void asks(PolicyRows x, int... want) {
        for (int what = 0; what < want.length; what++) {
            due.is("asked(" + what + ")", x.asked(what), want[what]);
        }
        due.none("asked(8)", () -> x.asked(8));
        due.none("asked(-1)", () -> x.asked(-1));
    }

    private static void queries() {
        PolicyRows x = due.told("role;row 1 5;row 2 0;row 3 7;row 4 0;row 0 9;permit all read using a<3;restrict all insert using 1/0;");
        due.is("what is silent and cheaper goes ahead", Due.query(x, 0, -1, "b, peek(b), a+b<9, 1"), 0);
        steps(x, new int[][] {{2, 0, 1, 1, 3, 5}, {2, 3, 1, 1, 2, 3}, {0, -1, 4, 0, 2, 3}, {2, 1, 2, 0, 2, 2},
            {2, 2, 5, 1, 2, 2}});
        asks(x, 1, 1, -1, -1, 5, 2, 14, 0);
        due.is("what tells goes ahead of what is silent, but not of the policy", Due.query(x, 0, -1, "a+b<9+0,peek(a)"), 0);
        steps(x, new int[][] {{0, -1, 4, 0, 3, 5}, {2, 1, 2, 0, 3, 3}, {2, 0, 7, 1, 2, 2}});
        asks(x, 2, 3, -1, -1, 3, 3, 3, 0);
        due.is("what may fail stays behind what isn't silent", Due.query(x, 0, -1, "peek(a)<9,1/b"), 0);
        steps(x, new int[][] {{0, -1, 4, 0, 2, 2}, {2, 0, 4, 0, 2, 2}, {2, 1, 3, 0, 2, 2}});
        asks(x, -1, 0, 1, 2, 3, 2, 3, 0);
        due.is("equal costs stay", Due.query(x, 0, -1, "a<9+0,a,b"), 0);
        steps(x, new int[][] {{2, 1, 1, 1, 3, 5}, {2, 2, 1, 1, 2, 4}, {0, -1, 4, 0, 1, 2}, {2, 0, 5, 1, 1, 1}});
        asks(x, 1, 1, -1, -1, 4, 0, 0, 0);
        due.is("a failing that the policy hides", Due.query(x, 0, -1, "6/(a-3)<9"), 0);
        asks(x, 3, 19, -1, -1, 2, 0, 0, 0);
        x.turn(0, false);
        due.is("as it ran", x.asked(1), 19);
        due.is("a policy without any", Due.query(x, 0, -1, "1"), 0);
        steps(x, new int[][] {{0, -1, 1, 0, 0, 5}, {2, 0, 1, 1, 0, 0}});
        asks(x, 0, 0, -1, -1, 2, 0, 0, 0);
    }

    private static void queriesOnViews() {
        String rows = "role;role;role;row 1 5;row 2 0;row 3 7;permit all read using a<9-me*3;";
        // The AS of the TABLE is 1 by view 0, so that it READS rows where a<6, all of them.
        PolicyRows x = due.told(rows + "view owner 1 where peek(me)+a;view caller of 0 where peek(me*10)+a;"
            + "view owner 2 barrier of 1 where a<9 and b<9;");
        due.is("on a view of a view of a view", Due.query(x, 0, 2, "peek(me+100),b"), 0);
        asks(x, 2, 5, -1, -1, 6, 6, 2 * (1 + 20 + 100), 1);
        steps(x, new int[][] {{2, 1, 1, 1, 3, 3}, {0, -1, 8, 0, 2, 2}, {1, 0, 4, 0, 2, 2}, {1, 1, 6, 0, 2, 2},
            {1, 2, 7, 1, 2, 2}, {2, 0, 4, 0, 2, 2}});
    }

    private static void barriers() {
        String rows = "role;row 1 5;row 2 0;row 3 7;permit all read using a<3 and a<3 and a<3;";
        PolicyRows open = due.told(rows + "view caller where a+b<8+0;");
        due.is("ahead of a view", Due.query(open, 0, 0, "peek(b)"), 0);
        steps(open, new int[][] {{1, 0, 7, 1, 2, 3}, {0, -1, 12, 0, 2, 2}, {2, 0, 2, 0, 2, 2}});
        PolicyRows closed = due.told(rows + "view caller barrier where peek(a)+b<8;");
        due.is("not ahead of what tells", Due.query(closed, 0, 0, "peek(b)"), 0);
        steps(closed, new int[][] {{0, -1, 12, 0, 2, 3}, {1, 0, 6, 0, 2, 2}, {2, 0, 2, 0, 2, 2}});
        due.is("silent ahead of all", Due.query(closed, 0, 0, "b"), 0);
        steps(closed, new int[][] {{2, 0, 1, 1, 2, 3}, {0, -1, 12, 0, 1, 2}, {1, 0, 6, 0, 1, 1}});
        String few = "role;row 1 5;row 2 0;row 3 7;permit all read;";
        PolicyRows wall = due.told(few + "view caller barrier where a+b<8+0;");
        due.is("a barrier that is silent", Due.query(wall, 0, 0, "peek(b)"), 0);
        steps(wall, new int[][] {{0, -1, 1, 0, 3, 3}, {1, 0, 7, 1, 3, 3}, {2, 0, 2, 0, 2, 2}});
        PolicyRows none = due.told(few + "view caller where a+b<8+0;");
        due.is("no barrier", Due.query(none, 0, 0, "peek(b)"), 0);
        steps(none, new int[][] {{0, -1, 1, 0, 3, 3}, {2, 0, 2, 0, 3, 3}, {1, 0, 7, 1, 2, 2}});
        PolicyRows silent = due.told(few + "view caller barrier where a+b<8+0;");
        due.is("silent ahead of a barrier", Due.query(silent, 0, 0, "b"), 0);
        steps(silent, new int[][] {{0, -1, 1, 0, 3, 3}, {2, 0, 1, 1, 3, 3}, {1, 0, 7, 1, 2, 2}});
    }

    private static void owners() {
        String text = "role;role;role;row 1 1;permit all read using 1=2-1;permit 1 read using peek(a);"
            + "view owner 1 where peek(me)+1;view caller of 0 where peek(me)+1;view owner 2 of 1 where peek(me)+1;";
        PolicyRows x = due.told(text);
        int[][] wants = {{-1, 0, 0}, {0, 1, 1}, {1, 1, 1}, {2, 1, 1 + 2 + 2}};
        for (int[] want : wants) {
            due.is("query on " + want[0], Due.query(x, 0, want[0], "1"), 0);
            due.is("as of the table by " + want[0], x.asked(7), want[1]);
            due.is("peeks by " + want[0], x.asked(5), want[0] + 1);
            due.is("their sum by " + want[0], x.asked(6), want[2]);
        }
        due.is("by 2 on the caller's", Due.query(x, 2, 1, "peek(me)+1"), 0);
        due.is("sum", x.asked(6), 1 + 2 + 2);
        for (int i = 0; i < 4; i++) {
            due.is("cost of the policy by its owner", x.step(i, 0) == 0 ? x.step(i, 2) : 8, 8);
        }
    }

    private static void inserts() {
        PolicyRows x = due.told(TABLE);
        due.is("without a policy", x.insert(0, 1, 1, 0, 0), -1);
        due.is("check lets", x.insert(2, 50, 19, 1000, -1000), 5);
        due.is("check doesn't", x.insert(2, 4, 20, 0, 0), -1);
        due.is("through others", x.insert(3, -99, -99, 0, 0), 6);
        due.is("too great", x.insert(3, 100, 1, 0, 0), -1);
        due.is("too little", x.insert(3, 1, -100, 0, 0), -1);
        due.is("cells", x.cell(4, 0) * 1000 + x.cell(5, 1), 49901);
        due.is("the greatest", due.told("columns 1;role;permit all any;").insert(0, 99, 100, 0, 0), 1);
        due.is("refused", x.count(11), 4);
        due.is("undo keeps a row of none", due.told("role;").undo(), -1);
        for (int rows = 7; rows <= 16; rows++) {
            due.is("insert", x.insert(2, 1, 1, 1, 1), rows);
        }
        due.is("the 17th", x.insert(2, 1, 1, 1, 1), -1);
        due.is("acts", x.count(7), 12);
        due.none("insert(4)", () -> x.insert(4, 1, 1, 1, 1));
        due.none("insert(-1)", () -> x.insert(-1, 1, 1, 1, 1));
        PolicyRows y = due.told("columns 4;role;permit all insert using d<5;restrict all any check c<5;restrict all insert;");
        due.is("by using", y.insert(0, 1, 1, 4, 4), 1);
        due.is("using doesn't", y.insert(0, 1, 1, 4, 5), -1);
        due.is("a restriction doesn't", y.insert(0, 1, 1, 5, 4), -1);
        due.is("the fourth is too great", y.insert(0, 1, 1, 1, 100), -1);
        due.is("failing is no holding", due.told("role;permit all insert using 1/a;").insert(0, 0, 1, 1, 1), -1);
    }

    private static void updates() {
        PolicyRows x = due.told(TABLE);
        due.none("update(4)", () -> x.update(4, 0, 0, 100));
        due.none("update(column)", () -> x.update(0, 0, 2, 100));
        due.none("update(column -1)", () -> x.update(0, 0, -1, 0));
        due.is("too great, ahead of all", x.update(0, 77, 0, 100), -1);
        due.is("no such row", x.update(2, 4, 0, 1), 0);
        due.is("no such row", x.update(2, -1, 0, 1), 0);
        due.is("not read", x.update(0, 3, 0, 1), 0);
        due.is("not by using", x.update(2, 0, 0, 1), 0);
        due.is("not by check", x.update(2, 3, 1, 20), -1);
        due.is("refused", x.count(11), 2);
        due.is("acts", x.count(7), 0);
        due.is("done", x.update(2, 3, 1, 19), 1);
        due.is("the same number", x.update(2, 3, 1, 19), 1);
        due.is("out of sight", x.update(2, 3, 0, 3), 1);
        due.is("it is there no more", x.update(2, 3, 0, 4), 0);
        due.is("acts", x.count(7), 3);
        due.is("cell", x.cell(3, 0), 3);
        due.is("undo", x.undo(), 2);
        due.is("cell", x.cell(3, 0) * 100 + x.cell(3, 1), 419);
        due.is("undo", x.undo(), 1);
        due.is("cell", x.cell(3, 1), 19);
        due.is("undo", x.undo(), 0);
        due.is("cell", x.cell(3, 1), 9);
        PolicyRows y = due.told("role;row 1 2;permit all read using a<5;permit all update using a=1 check b=9;permit all update using a=2;");
        due.is("some by using, another by check", y.update(0, 0, 0, 2), 1);
        due.is("check by using", y.update(0, 0, 0, 1), -1);
        due.is("check of the other", y.update(0, 0, 1, 9), 1);
        due.is("check of the other", y.update(0, 0, 0, 7), 1);
        due.is("not read any more", y.update(0, 0, 0, 1), 0);
    }

    private static void deletes() {
        PolicyRows x = due.told(TABLE);
        due.none("delete(4)", () -> x.delete(4, 0));
        due.none("delete(-1)", () -> x.delete(-1, 0));
        due.is("no such row", x.delete(0, 4), 0);
        due.is("no such row", x.delete(0, -1), 0);
        due.is("not read", x.delete(0, 2), 0);
        due.is("not by using", x.delete(2, 0), 0);
        due.is("no status", x.count(11), 0);
        due.is("no act", x.count(7), 0);
        due.is("done", x.delete(0, 1), 1);
        due.is("rows", x.count(2), 3);
        due.is("rows come up", x.cell(1, 0) * 10 + x.cell(2, 0), 34);
        due.is("done", x.delete(2, 2), 1);
        due.is("done", x.delete(1, 0), 1);
        due.is("rows", x.count(2), 1);
        due.is("undo", x.undo(), 2);
        due.is("undo", x.undo(), 1);
        due.is("undo", x.undo(), 0);
        due.is("undo", x.undo(), -1);
        for (int row = 0; row < 4; row++) {
            due.is("cell", x.cell(row, 0), row + 1);
        }
        due.is("cell", x.cell(1, 1), -4);
        due.is("cell", x.cell(3, 1), 9);
    }

    private static void grants() {
        PolicyRows x = due.told(TABLE);
        due.none("grant(4, 0)", () -> x.grant(4, 0, true) ? 1 : 0);
        due.none("grant(0, 4)", () -> x.grant(0, 4, true) ? 1 : 0);
        due.none("grant(-1, 0)", () -> x.grant(-1, 0, false) ? 1 : 0);
        due.is("it is so", x.grant(1, 0, true), false);
        due.is("it isn't so", x.grant(0, 1, false), false);
        due.is("both are one", x.grant(2, 2, true), false);
        due.is("both are one", x.grant(2, 2, false), false);
        due.is("a round", x.grant(0, 1, true), false);
        due.is("a round through others", x.grant(0, 3, true), false);
        due.is("had through others is not given", x.grant(3, 0, false), false);
        due.is("refused", x.count(11), 7);
        due.is("had already, given now", x.grant(3, 0, true), true);
        due.is("given", x.role(3, 0), 7);
        due.is("given", x.grant(0, 2, true), true);
        due.is("has", x.role(1, 1), 7);
        due.is("reads", x.role(0, 2), 1 + 8);
        due.is("revoked", x.grant(3, 1, false), true);
        due.is("has", x.role(3, 1), 13);
        due.is("undo", x.undo(), 2);
        due.is("undo", x.undo(), 1);
        due.is("undo", x.undo(), 0);
        due.is("has", x.role(3, 1) * 100 + x.role(3, 0), 1506);
        due.is("reads", x.role(0, 2), 3);
    }

    private static void turns() {
        PolicyRows x = due.told(TABLE);
        due.none("turn(5)", () -> x.turn(5, true) ? 1 : 0);
        due.none("turn(-1)", () -> x.turn(-1, false) ? 1 : 0);
        due.is("on already", x.turn(2, true), false);
        due.is("off", x.turn(2, false), true);
        due.is("off already", x.turn(2, false), false);
        due.is("refused", x.count(11), 2);
        due.is("reads", x.role(2, 2), 11);
        due.is("of it", x.role(2, 3), 9);
        due.is("on", x.turn(2, true), true);
        due.is("reads", x.role(2, 2), 9);
        due.is("undo", x.undo(), 1);
        due.is("reads", x.role(2, 2), 11);
        due.is("undo", x.undo(), 0);
        due.is("reads", x.role(2, 2), 9);
    }

    private static void actsKept() {
        PolicyRows x = due.told("columns 1;role;row 0;permit all any;");
        for (int i = 1; i <= 45; i++) {
            x.update(0, 0, 0, i);
            due.is("acts kept", x.count(7), Math.min(i, 40));
        }
        x.image();
        for (int time = 0; time < 2; time++) {
            for (int i = 39; i >= 0; i--) {
                due.is("undo", x.undo(), i);
                due.is("as it was, the oldest ones done", x.cell(0, 0), i + 5);
            }
            due.is("undo", x.undo(), -1);
            x.update(0, 0, 0, 77);
            due.is("restore", x.restore(), true);
        }
        PolicyRows y = due.told("columns 1;role;role;row 1;row 2;row 3;permit all any;");
        y.delete(0, 1);
        y.insert(0, 7, 0, 0, 0);
        y.update(0, 1, 0, 8);
        y.delete(0, 0);
        y.turn(0, false);
        y.grant(1, 0, true);
        due.is("undo", y.undo() + y.undo() + y.undo() + y.undo() + y.undo(), 5 + 4 + 3 + 2 + 1);
        due.is("rows", y.count(2), 2);
        due.is("undo", y.undo(), 0);
        due.is("rows", y.cell(0, 0) * 100 + y.cell(1, 0) * 10 + y.cell(2, 0), 123);
    }

    private static void whoReads() {
        PolicyRows x = due.told(TABLE);
        int[] want = {15, 3, 10, 12};
        for (int row = 0; row < 4; row++) {
            due.is("readers(" + row + ")", x.readers(row), want[row]);
        }
        due.none("readers(4)", () -> x.readers(4));
        due.none("readers(-1)", () -> x.readers(-1));
        due.is("a restriction permits nothing", due.told("role;row 1 1;restrict all read;").readers(0), 0);
        due.is("of another command", due.told("role;row 1 1;permit all update;").readers(0), 0);
        due.is("any", due.told("role;row 1 1;permit all any check 0;").readers(0), 1);
        due.is("failing is no holding", due.told("role;row 1 1;permit all read using 1/0 or 1;").readers(0), 0);
        due.is("a restriction that fails", due.told("role;row 1 1;permit all read;restrict all read using 1/0 or 1;").readers(0), 0);
        due.is("me and has", due.told("role;role 0;role 1;role;row 1 1;permit all read using me=1 or has 1 and has 2;").readers(0), 6);
    }

    private static void lacking() {
        PolicyRows x = due.told(TABLE);
        due.is("it reads it", x.toSee(0, 0), 0);
        due.is("by a round", x.toSee(0, 2), 2);
        due.is("by one with a restriction", x.toSee(0, 3), 4);
        due.is("by none", x.toSee(2, 1), -1);
        due.is("the least of two", x.toSee(1, 3), 4);
        due.none("toSee(4, 0)", () -> x.toSee(4, 0));
        due.none("toSee(0, 4)", () -> x.toSee(0, 4));
        PolicyRows y = due.told("role;role;role;role 1;role;row 1 1;permit all read using has 1 and has 2;restrict 4 read using has 3;");
        due.is("two", y.toSee(0, 0), 6);
        due.is("one more", y.toSee(3, 0), 4);
        due.is("fewest, not least", y.toSee(4, 0), 4 + 8);
        due.is("all as ever", y.role(0, 1), 1);
        PolicyRows all = due.told("role;role;role;row 1 1;permit 0 read using has 1 and has 2 and me=0;permit 1 read using me=2 and has 0;");
        due.is("both others", all.toSee(0, 0), 6);
        due.is("two by oneself", all.toSee(2, 0), 3);
        due.is("oneself by number", all.toSee(1, 0), -1);
    }

    private static void escaping() {
        PolicyRows x = due.told(TABLE);
        int[][] want = {{0, -1}, {0, -1}, {15, 3053}, {14, 3055}};
        for (int role = 0; role < 4; role++) {
            int user = role;
            due.is("escapes(" + role + ", 0)", x.escapes(role, 0), want[role][0]);
            due.is("escapes(" + role + ", 1)", x.escapes(role, 1), want[role][1]);
            due.none("escapes(" + role + ", 2)", () -> x.escapes(user, 2));
            due.none("escapes(" + role + ", -1)", () -> x.escapes(user, -1));
        }
        due.none("escapes(4, 0)", () -> x.escapes(4, 0));
        due.is("no act", x.count(7), 0);
        due.is("no status", x.count(11), 0);
        due.is("cell", x.cell(3, 0), 4);
        due.is("the first by a column behind", due.told("role;row 1 5;permit all any using b=5 check 1;").escapes(0, 1), 141);
        due.is("another one than it is", due.told("columns 1;role;row 9;permit all any using not a<9 check 1;").escapes(0, 0), 18);
        due.is("check may not let it", due.told("columns 1;role;row 9;permit all any using not a<9;").escapes(0, 0), 0);
    }

    private static void mays() {
        PolicyRows x = due.told(TABLE);
        due.is("read", x.may(0, 0, 0), 1);
        due.is("read", x.may(0, 2, 0), 0);
        due.is("update", x.may(2, 3, 2), 1);
        due.is("update", x.may(2, 0, 2), 0);
        due.is("delete", x.may(0, 0, 3), 1);
        due.is("delete what isn't read", x.may(0, 2, 3), 0);
        due.is("delete", x.may(2, 3, 3), 1);
        due.is("delete", x.may(2, 0, 3), 0);
        due.none("may(0, 0, 1)", () -> x.may(0, 0, 1));
        due.none("may(0, 0, 4)", () -> x.may(0, 0, 4));
        due.none("may(0, 0, -1)", () -> x.may(0, 0, -1));
        due.none("may(4, 0, 0)", () -> x.may(4, 0, 0));
        due.none("may(0, 4, 0)", () -> x.may(0, 4, 0));
    }

    private static void meantOf(PolicyRows x, int many, int first, int without, int role, int sets) {
        due.is("meant(0)", x.meant(0), many);
        due.is("meant(1)", x.meant(1), first);
        due.is("meant(2)", x.meant(2), without);
        due.is("look(0)", x.look(0), role);
        due.is("look(1)", x.look(1), sets);
    }

    private static void meaning() {
        PolicyRows x = due.told("columns 1;role;role;row 5;permit 0 read using a<3;permit 1 any;");
        meantOf(x, 18, 41, 1, 0, 2);
        due.is("see", x.see(0, 0, true), 1);
        meantOf(x, 12, 41, 0, 0, 1);
        due.is("see", x.see(1, 0, true), 2);
        meantOf(x, 12, 41, 0, 0, 1);
        due.is("see", x.see(0, 0, false), 3);
        meantOf(x, 0, -1, 0, -1, 0);
        x.forget();
        due.is("count(8)", x.count(8), 0);
        due.is("see", x.see(0, 0, false), 1);
        meantOf(x, 6, 53, 1, 0, 1);
        for (int i = 2; i <= 8; i++) {
            due.is("see", x.see(1, 0, true), i);
        }
        due.is("the ninth", x.see(1, 0, true), -1);
        due.is("refused", x.count(12), 1);
        due.none("see(2, 0)", () -> x.see(2, 0, true));
        due.none("see(0, 1)", () -> x.see(0, 1, true));
        due.none("see(0, -1)", () -> x.see(0, -1, true));
        due.is("refused no more", x.count(12) * 10 + x.count(8), 18);
        due.is("delete", x.delete(1, 0), 1);
        meantOf(x, 0, -1, 0, -1, 0);
        due.none("meant(3)", () -> x.meant(3));
        due.none("meant(-1)", () -> x.meant(-1));
        due.none("look(2)", () -> x.look(2));
        due.none("look(-1)", () -> x.look(-1));
    }

    private static void meaningOfMore() {
        PolicyRows x = due.told("role;role;row 1 1;row 2 20;row 9 9;permit 0 read using a<3;permit 1 read using a+b=2;permit all delete;");
        // A number can change what role 0 reads by one row, each of the three; role 1 reads rows where a+b is 2.
        due.is("see", x.see(0, 1, false), 1);
        meantOf(x, 7, 1053, 0, 0, 1);
        due.is("see", x.see(1, 1, true), 2);
        meantOf(x, 0, -1, 0, -1, 0);
        x.forget();
        meantOf(x, 18 + 18 + 18 + 19 + 18 + 18, 41, 1, 0, 4);
        due.is("see", x.see(1, 2, true), 1);
        meantOf(x, 2, 2043, 0, 0, 2);
        due.is("see", x.see(1, 0, true), 2);
        meantOf(x, 2, 2043, 0, 0, 2);
        due.is("see", x.see(1, 0, false), 3);
        meantOf(x, 0, -1, 0, -1, 0);
        PolicyRows y = due.told("columns 1;role;role;role;row 5;row 6;permit 0 read;permit 1 read using a=5;permit 2 read using a=6 or a=5;");
        meantOf(y, 36, 41, 1, 1, 3);
        y.see(1, 0, false);
        meantOf(y, 18, 41, 0, 2, 2);
        y.see(2, 0, true);
        meantOf(y, 1, 56, 0, 0, 1);
        x.forget();
        due.is("see", x.see(0, 1, true), 1);
        due.is("see", x.see(0, 2, false), 2);
        due.is("so without", x.meant(2), 1);
        due.is("delete", x.delete(0, 1), 1);
        meantOf(x, 0, -1, 0, -1, 0);
        due.is("undo", x.undo(), 0);
        due.is("so again", x.meant(2), 1);
        due.is("cells as ever", x.cell(0, 0) + x.cell(1, 1) + x.cell(2, 1), 30);
    }

    private static void lapsing() {
        PolicyRows x = due.told(TABLE);
        int[][] want = {{0, 0, 3, 70000}, {3, 0, 3, 70000}, {3, 1, 3, 21000}, {2, 3, 3, 70000}, {0, 2, 3, 0},
            {0, 0, 0, 100000}, {0, 0, 10, 0}, {3, 1, 0, 0}, {3, 1, 10, 0}, {2, 1, 5, 25000}};
        for (int[] w : want) {
            due.is("lapses(" + w[0] + ", " + w[1] + ", " + w[2] + ")", x.lapses(w[0], w[1], w[2]), w[3]);
        }
        x.turn(4, false);
        x.turn(2, false);
        due.is("fewer are on", x.lapses(3, 1, 3), 700);
        due.none("lapses(4, 0, 11)", () -> x.lapses(4, 0, 11));
        due.none("lapses(0, 4, 11)", () -> x.lapses(0, 4, 11));
        due.unfit("lapses(0, 0, 11)", () -> x.lapses(0, 0, 11));
        due.unfit("lapses(0, 0, -1)", () -> x.lapses(0, 0, -1));
        PolicyRows y = due.told("role;row 1 1;" + "permit all read;".repeat(2) + "restrict all read using a=2;" + "permit all insert;".repeat(5));
        due.is("of eight", y.lapses(0, 0, 4), (100 - 16) * 4 * 100000);
        due.is("of eight, all", due.told("role;row 1 1;" + "permit all read;".repeat(8)).lapses(0, 0, 0), 100000000);
        due.is("of none", due.told("role;row 1 1;").lapses(0, 0, 3), 0);
    }

    private static void passing() {
        PolicyRows x = due.told("role;role;permit all any;");
        due.is("years(0, 60, 0)", x.years(0, 60, 0), 52);
        due.is("years(0, 60, 1)", x.years(0, 60, 1), 4);
        due.is("years(0, 60, 2)", x.years(0, 60, 2), 8);
        due.is("as ever", x.count(2) + x.count(7) + x.count(11), 0);
        due.none("years(0, 61, 3)", () -> x.years(0, 61, 3));
        due.none("years(0, 1, -1)", () -> x.years(0, 1, -1));
        due.unfit("years(0, 61, 0)", () -> x.years(0, 61, 0));
        due.unfit("years(0, -1, 0)", () -> x.years(0, -1, 0));
        PolicyRows y = due.told("columns 1;role;role;role;row 5;permit all any;");
        due.is("years(-7, 20, 0)", y.years(-7, 20, 0), 16);
        due.is("years(-7, 20, 1)", y.years(-7, 20, 1), 0);
        due.is("years(-7, 19, 2)", y.years(-7, 19, 2), 3);
        due.is("years(-7, 0, 2)", y.years(-7, 0, 2), 3);
        due.is("as ever", y.cell(0, 0), 5);
        PolicyRows some = due.told("role;role;row 1 2;permit all insert;permit all read using a+me*2<b;permit all update;permit all delete;");
        int[][] wants = {{1, 20, 15, 8}, {2, 19, 6, 0}, {77, 21, 16, 9}, {-5, 24, 13, 6}, {2147483647, 25, 16, 4}};
        for (int[] want : wants) {
            for (int what = 0; what < 3; what++) {
                due.is("years(" + want[0] + ", 60, " + what + ")", some.years(want[0], 60, what), want[1 + what]);
            }
        }
        PolicyRows full = due.told("columns 4;role;" + "row 1 2 3 4;".repeat(16) + "permit all any;");
        due.is("years(12345, 60, 0)", full.years(12345, 60, 0), 58);
        due.is("years(12345, 60, 1)", full.years(12345, 60, 1), 10);
        due.is("as ever", full.count(2), 16);
        PolicyRows shut = due.told("columns 1;role;role;row 5;row 6;permit all read using a<6;");
        due.is("nothing is let", shut.years(99, 60, 0), 0);
        due.is("rows", shut.years(99, 60, 1), 2);
        due.is("sights", shut.years(99, 60, 2), 2);
    }

    private static void images() {
        PolicyRows x = due.told(TABLE);
        due.is("none", x.restore(), false);
        x.update(2, 3, 1, 1);
        x.see(0, 0, true);
        x.image();
        Due.query(x, 0, -1, "a");
        x.update(2, 3, 1, 2);
        x.delete(0, 0);
        x.grant(0, 2, true);
        x.turn(0, false);
        x.see(0, 0, false);
        due.is("refused", x.turn(0, false), false);
        due.is("restored", x.restore(), true);
        counts(x, 4, 2, 4, 5, 0, 10, 16, 1, 1, 0, 0, 1, 0);
        due.is("cell", x.cell(3, 1), 1);
        due.is("given", x.role(0, 0), 0);
        due.is("on", x.policy(0, 3), 1);
        due.is("the query stays", x.asked(4), 2);
        due.is("undo", x.undo(), 0);
        due.is("cell", x.cell(3, 1), 9);
        x.forget();
        due.is("restored again", x.restore(), true);
        due.is("acts, seen", x.count(7) * 10 + x.count(8), 11);
        due.is("meant", x.meant(2), 1);
        x.undo();
        x.image();
        x.delete(0, 0);
        due.is("another one in its place", x.restore(), true);
        due.is("acts", x.count(7), 0);
        due.is("cell", x.cell(3, 1), 9);
        due.is("a fault leaves the image", Due.tell(x, "x"), 1);
        due.is("restored", x.restore(), true);
        due.is("told", Due.tell(x, TABLE), 0);
        due.is("gone", x.restore(), false);
    }

    public static void main(String[] args) {
        newObject();
        tape();
        anew();
        counted();
        policies();
        views();
        queries();
        queriesOnViews();
        barriers();
        owners();
        inserts();
        updates();
        deletes();
        grants();
        turns();
        actsKept();
        whoReads();
        lacking();
        escaping();
        mays();
        meaning();
        meaningOfMore();
        lapsing();
        passing();
        images();
        due.end("PromiseTest");
    }
}
