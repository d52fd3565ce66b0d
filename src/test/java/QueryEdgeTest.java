/**
 * EXPR, the USER who READS, and the QUERY, promises 4, 11 and 12: each sentence of the document that names a
 * boundary case stands above the test that it has of its own.
 */
public final class QueryEdgeTest {
    private static final Due due = new Due();
    private static final int[] FAR = {Integer.MIN_VALUE, Integer.MIN_VALUE + 1, -100, -2, 16, 100, Integer.MAX_VALUE - 1, Integer.MAX_VALUE};
    private static final String MAX = "(9999*9999*21+4790*9999+8416)";
    private static final String MIN = "(0-" + MAX + "-1)";

    /** The rule is the one CONDITION of role 1, which HAS 0, on one ROW (7, -3) that all READ. */
    private static PolicyRows run(String rule) {
        PolicyRows x = due.told("role;role 0;role;row 7 -3;permit all read;");
        due.is("query " + rule, Due.query(x, 1, -1, rule), 0);
        return x;
    }

    private static void holds(String rule, boolean is) {
        PolicyRows x = run(rule);
        due.is(rule + " holds", x.asked(0), is ? 1 : 0);
        due.is(rule + " does not fail", x.asked(2), -1);
    }

    private static void fails(String rule, int peeks, int sum) {
        due.row("asked of " + rule, run(rule)::asked, -1, 0, 0, 1, 2, peeks, sum, 1);
    }

    private static void ask(PolicyRows x, int user, int target, String text) {
        due.is("query(" + user + ", " + target + ", " + text + ")", Due.query(x, user, target, text), 0);
    }

    /** The PLAN as a text: p for the POLICY, w for a WHERE, c for a CONDITION, and which. */
    private static String plan(PolicyRows x) {
        StringBuilder plan = new StringBuilder();
        for (int i = 0; i < x.asked(4); i++) {
            plan.append("pwc".charAt(x.step(i, 0)));
            plan.append(x.step(i, 0) == 0 ? "" : Integer.toString(x.step(i, 1)));
        }
        return plan.toString();
    }

    private static void planned(PolicyRows x, int target, String text, String want) {
        ask(x, 0, target, text);
        due.is("plan of " + text + " on " + target, plan(x), want);
    }

    private static void counts(PolicyRows x, int what, int... want) {
        due.is("steps", x.asked(4), want.length);
        due.row((what == 4 ? "TOLD" : "DONE") + " of step", i -> x.step(i, what), want);
    }

    // ---- EXPR

    /** "ints that wrap" */
    private static void intsWrap() {
        holds("0<" + MAX, true);
        holds(MAX + "+1<0", true);
        holds(MAX + "+1=" + MIN, true);
        holds("0<" + MIN + "-1", true);
        holds(MIN + "-1=" + MAX, true);
        holds(MAX + "*2=0-2", true);
        holds(MAX + "*" + MAX + "=1", true);
        holds(MIN + "*" + MIN, false);
        holds("0-" + MIN + "=" + MIN, true);
        holds(MIN + "<" + MAX, true);
        holds(MAX + "<" + MIN, false);
        holds(MIN, true);
    }

    /** "/ cut down to 0" */
    private static void divisionsAreCutDownToZero() {
        holds("7/2=3", true);
        holds("b/2=0-1", true);
        holds("a/b=0-2", true);
        holds("b/(0-2)=1", true);
        holds("1/2", false);
        holds("(0-1)/2", false);
        holds("9998/9999", false);
        holds("0/5=0", true);
        holds(MIN + "/(0-1)=" + MIN, true);
        holds(MIN + "/2=0-8192*8192*16", true);
        holds("a/1=a", true);
    }

    /** "by 0 it gives 0, and all FAILS" */
    private static void byZeroAllFails() {
        String[] failing = {"1/0", "0/0", "1 or 1/0", "1/0 or 1", "0 and 1/0", "1/0 and 0", "not 1/0", "1/0<1", "1=1/0", "has 1/0",
            "0*(1/0)", "1/(a-7)", "1/(a<b)", "1/has 2", "1/(me-1)", "5+1/0*3", "1/0+2/1", "1/0 or 4/2", "4/2/0/2", "1/(1/2)", MIN + "/0", "(((((1/0)))))=0"};
        for (String rule : failing) {
            fails(rule, 0, 0);
        }
        fails("peek(7/0)", 1, 0);
        fails("peek(7/0+5)", 1, 5);
        fails("peek(5-7/0*3)", 1, 5);
        fails("peek(7/0=0)", 1, 1);
        fails("peek(1/(1/0))", 1, 0);
        holds("1/(a-6)", true);
    }

    /** "'peek': that number, and it is TOLD (a PEEK, though the EXPR FAILS)" */
    private static void aPeekIsToldThoughTheExprFails() {
        fails("peek(a)+1/0", 1, 7);
        fails("1/0+peek(a)", 1, 7);
        fails("peek(a)/peek(0)+peek(b)", 3, 4);
        due.row("asked", run("0 and peek(a)")::asked, 0, 0, -1, -1, 2, 1, 7, 1);
        due.row("asked", run("1 or peek(a)")::asked, 1, 1, -1, -1, 2, 1, 7, 1);
        due.row("asked", run("peek(peek(peek(b)))")::asked, 1, 1, -1, -1, 2, 3, -9, 1);
        due.row("asked", run("peek(0)")::asked, 0, 0, -1, -1, 2, 1, 0, 1);
    }

    /** "tests, not, and, or are 1 or 0 (what isn't 0 holds)" */
    private static void testsAreOneOrZero() {
        String[] one = {"a or b", "0 or b", "a or 0", "a and b", "not 0", "not not b", "b<a", "a=7", "1<2", "b<b+1"};
        for (String rule : one) {
            holds("(" + rule + ")=1", true);
        }
        String[] zero = {"0 or 0", "a and 0", "0 and b", "not a", "not b", "a<b", "a<a", "a=b", "not 9999"};
        for (String rule : zero) {
            holds("(" + rule + ")=0", true);
        }
        holds("0-1", true);
        holds("b", true);
        holds("a-7", false);
        holds("0", false);
    }

    /** "'me': the number of the USER; 'has': 1, if the USER HAS that ROLE" */
    private static void meAndHas() {
        PolicyRows x = due.told("role;role 0;role 1;role;role;role 2;row 1 2;permit all read;");
        int[] had = {1, 3, 7, 8, 16, 39};
        for (int user = 0; user < 6; user++) {
            ask(x, user, -1, "peek(me)<9,peek(has 0+2*has 1+4*has 2+8*has 3+16*has 4+32*has 5)");
            due.is("me and has by " + user, x.asked(6), user + had[user]);
        }
        ask(x, 0, -1, "me");
        due.is("me is 0", x.asked(0), 0);
    }

    /** The most that can wait for what stands behind: five in each of six EXPRS, one within the other. */
    private static void theDeepestExpr() {
        String head = "0 or 1 and 3=1+2*(";
        String deep = head.repeat(5) + "0 or 1 and 3=1+2*1" + ")".repeat(5);
        holds(deep, true);
        holds(head.repeat(5) + "0 or 1 and 3=1+2*0" + ")".repeat(5), false);
        fails(head.repeat(5) + "0 or 1 and 3=1+2/0" + ")".repeat(5), 0, 0);
        due.is("its cost", run(deep).step(1, 2), 61);
    }

    /** "SILENT: no 'peek', and no '/' but by a NUMBER that isn't 0 right behind it (no parenthesis)" */
    private static void silentIsWhatCannotFailOrTell() {
        String[] silent = {"a", "a/1", "a/9999", "a/0001", "a/ \n 2", "(a/2)/3", "a/2*b", "a/1-0", "(b)/7", "has 0/2"};
        for (String rule : silent) {
            due.is(rule + " is silent", run(rule).step(1, 3), 1);
        }
        String[] loud = {"peek(1)", "a/0", "a/0000", "a/(2)", "a/b", "a/me", "a/has 0", "a/2/0", "a/(1)/2", "1+peek(a)/2", "a/((2))"};
        for (String rule : loud) {
            due.is(rule + " is not silent", run(rule).step(1, 3), 0);
        }
    }

    /** "COST: how many NUMBERS (that of 'has' not), words, and signs but parentheses it has" */
    private static void costs() {
        String[] rules = {"1", "(((a)))", "has 0", "has 0+0", "peek(1)", "not 1", "a<b", "a and b or not me=has 1", "peek((a))+peek((b))"};
        int[] costs = {1, 1, 1, 3, 2, 2, 3, 8, 5};
        for (int i = 0; i < rules.length; i++) {
            due.is("cost of " + rules[i], run(rules[i]).step(1, 2), costs[i]);
        }
    }

    // ---- who READS

    /** "if of READ some POLICY that PERMITS and is OF it, and all that RESTRICT and are OF it, HOLD by USING (without USING they do)" */
    private static void someThatPermitAndAllThatRestrict() {
        String[] policies = {"", "restrict all read;", "permit all insert;", "permit 1 read;", "permit all read using 0;", "permit all read check 1;",
            "permit all read using 0 check 1;", "permit all any;", "permit 0 read;restrict all read;", "permit all read;restrict all any using 0;",
            "permit all read;restrict 1 read using 0;", "permit all read;restrict all delete using 0;", "permit all read using 1/0 or 1;",
            "permit all read;restrict all read using 1/0 or 1;", "permit all read using 0;permit all any using 2;",
            "restrict all read using 1;restrict all read using 0;permit all read;", "permit all read using 0-1;"};
        int[] reads = {0, 0, 0, 0, 0, 1, 0, 1, 1, 0, 1, 1, 0, 0, 1, 0, 1};
        for (int i = 0; i < policies.length; i++) {
            PolicyRows x = due.told("role;role;row 1 2;" + policies[i]);
            due.is("reads by " + policies[i], x.role(0, 2), reads[i]);
        }
    }

    /** "if it is ON" */
    private static void aPolicyThatIsOffIsOfNobody() {
        PolicyRows x = due.told("role;row 1 2;permit all read;restrict all read using 0;");
        due.is("reads", x.role(0, 2), 0);
        x.turn(1, false);
        due.is("reads without the restriction", x.role(0, 2) * 10 + x.role(0, 3), 11);
        x.turn(0, false);
        due.is("reads without the permit", x.role(0, 2) * 10 + x.role(0, 3), 0);
    }

    // ---- the QUERY

    /** "at most 5 CONDITIONS (FAULT 2 at the first TOKEN of the 6th, else as above)" */
    private static void conditionsAreAtMostFive() {
        PolicyRows x = due.told("role;row 1 2;permit all read;");
        ask(x, 0, -1, "1,2,3,4,5");
        due.is("five", plan(x), "pc0c1c2c3c4");
        String[] six = {"6", "a", "zz", "(", "(1)", "not 1", "peek(1)", "12345", "has 9", "or"};
        for (String first : six) {
            due.is("the 6th: " + first, Due.query(x, 0, -1, "1,2,3,4,5, " + first), 2);
            due.is("its place", x.fault(), 11);
        }
        for (String none : new String[] {"", ",", ")", "-1", "<", ";", "!"}) {
            due.is("no 6th: " + none, Due.query(x, 0, -1, "1,2,3,4,5, " + none), 1);
            due.is("its place", x.fault(), 11);
        }
        due.is("a fault ahead of the 6th", Due.query(x, 0, -1, "1,2,c,4,5,6"), 3);
        due.is("its place", x.fault(), 4);
        due.is("the one ahead stays", plan(x), "pc0c1c2c3c4");
        due.is("refused", x.count(10), six.length + 8);
    }

    /** "no such ROLE, VIEW (as everywhere)", "(ahead of all)", "the tape has not so many, n below 0 (nothing changes)" */
    private static void whoAsksWhat() {
        PolicyRows x = due.told("role;role;row 1 2;permit all read;view caller where 1;");
        ask(x, 1, 0, "a,b");
        Due.feed(x, "a");
        for (int far : FAR) {
            due.none("query(" + far + ", -1, 1)", () -> x.query(far, -1, 1));
            due.none("query(0, " + far + ", 1)", () -> x.query(0, far, 1));
            due.none("query(0, " + far + ", 99)", () -> x.query(0, far, 99));
            due.none("query(" + far + ", 0, -1)", () -> x.query(far, 0, -1));
        }
        due.none("query(2, -1, 1)", () -> x.query(2, -1, 1));
        due.none("query(-1, -1, 1)", () -> x.query(-1, -1, 1));
        due.none("query(0, 1, 1)", () -> x.query(0, 1, 1));
        for (int n : new int[] {-1, 21, 700, Integer.MIN_VALUE, Integer.MAX_VALUE}) {
            due.unfit("query(0, 0, " + n + ")", () -> x.query(0, 0, n));
        }
        due.is("nothing changes", x.count(9) * 100 + x.asked(4) * 10 + x.count(10), 2040);
        due.is("the last role, the last view, all bytes", x.query(1, 0, 20), 0);
        due.is("in place of another one", plan(x), "pw0c0");
        due.is("the tape is empty", x.count(9), 0);
        due.is("the first role, no view", Due.query(x, 0, -1, "b"), 0);
        due.is("plan", plan(x), "pc0");
        due.unfit("of an empty tape", () -> x.query(0, -1, 1));
        due.is("no bytes", x.query(0, -1, 0), 1);
        due.is("place", x.fault(), 0);
        due.is("the one ahead stays", plan(x), "pc0");
    }

    /** "The AS .. of what a VIEW is OF (the TABLE, too) the VIEW's OWNER, or the AS of the VIEW, if it is the CALLER's" */
    private static void whoItRunsAs() {
        String roles = "role;role;role;role;row 1 1;permit all read;";
        String[] views = {"view caller where peek(me)+1;", "view owner 1 where peek(me)+1;", "view caller where peek(me)+1;view caller of 0 where peek(me)+1;",
            "view owner 1 where peek(me)+1;view caller of 0 where peek(10*me)+1;", "view caller where peek(me)+1;view owner 1 of 0 where peek(10*me)+1;",
            "view owner 1 where peek(me)+1;view owner 2 of 0 where peek(10*me)+1;",
            "view caller where peek(me)+1;view owner 1 of 0 where peek(10*me)+1;view caller of 1 where peek(100*me)+1;",
            "view owner 2 where peek(me)+1;view owner 1 of 0 where peek(10*me)+1;view owner 3 of 1 where peek(100*me)+1;",
            "view owner 1 where peek(me)+1;view owner 2 where peek(10*me)+1;view caller of 0 where peek(100*me)+1;"};
        int[] targets = {0, 0, 1, 1, 1, 1, 2, 2, 2};
        int[] as = {3, 1, 3, 1, 1, 1, 1, 2, 1};
        int[] sums = {3, 1, 6, 31, 11, 21, 311, 312, 301};
        for (int i = 0; i < views.length; i++) {
            PolicyRows x = due.told(roles + views[i]);
            ask(x, 3, targets[i], "peek(1000*me)+1");
            due.is("as of the table by " + views[i], x.asked(7), as[i]);
            due.is("peeks by " + views[i], x.asked(6), 3000 + sums[i]);
            ask(x, 3, -1, "1");
            due.is("as of the table without a view", x.asked(7), 3);
        }
    }

    /** "STEPS: the POLICY .., WHERES of VIEWS, that on the TABLE first, up to the target, then CONDITIONS": two at least, nine at most. */
    private static void stepsAreTwoToNine() {
        PolicyRows x = due.told("role;row 1 2;row 3 4;view caller where peek(a);view caller of 0 where peek(a);view caller of 1 where peek(a);");
        ask(x, 0, 2, "peek(a),peek(a),peek(a),peek(a),peek(a)");
        due.is("nine", plan(x), "pw0w1w2c0c1c2c3c4");
        due.row("costs", i -> x.step(i, 2), 1, 2, 2, 2, 2, 2, 2, 2, 2);
        counts(x, 4, 0, 0, 0, 0, 0, 0, 0, 0, 0);
        counts(x, 5, 2, 0, 0, 0, 0, 0, 0, 0, 0);
        due.none("the tenth", () -> x.step(9, 0));
        planned(x, -1, "1", "pc0");
        due.none("the third", () -> x.step(2, 0));
        planned(x, 0, "peek(1)", "pw0c0");
        planned(x, 1, "peek(1)", "pw0w1c0");
        PolicyRows y = due.told("role;row 1 2;view caller where peek(a);view caller where peek(a);view caller of 0 where peek(a);");
        planned(y, 2, "peek(1)", "pw0w2c0");
    }

    /** "COST of the POLICY: 1 and COSTS of USINGS of all POLICIES OF that AS and READ" */
    private static void costOfThePolicy() {
        String[] policies = {"", "permit all read;", "permit all read using a;", "permit all any using a<9;restrict all read using not b;permit all read check a;",
            "permit all read using a;permit 1 read using a<9;", "permit all read using a;permit all insert using b;permit all update using b;permit all delete using b;"};
        int[] costs = {1, 1, 2, 6, 2, 2};
        for (int i = 0; i < policies.length; i++) {
            PolicyRows x = due.told("role;role;" + policies[i] + "view owner 1 where 1=1+0*1000;");
            ask(x, 0, -1, "peek(a)");
            due.is("cost by " + policies[i], x.step(0, 2), costs[i]);
            ask(x, 0, 0, "peek(a)");
            due.is("cost by the owner", x.step(x.step(0, 0) == 0 ? 0 : 1, 2), i == 4 ? 5 : costs[i]);
        }
        PolicyRows eight = due.told("role;row 1 2;" + "permit all any using a<9;".repeat(8));
        ask(eight, 0, -1, "peek(a)");
        due.is("cost by eight", eight.step(0, 2), 25);
        due.is("answer by eight", eight.asked(1), 1);
        PolicyRows off = due.told("role;permit all read using a<9;");
        off.turn(0, false);
        ask(off, 0, -1, "peek(a)");
        due.is("cost of what is off", off.step(0, 2), 1);
    }

    /** "it costs less": not as much. */
    private static void onlyWhatCostsLessGoesAhead() {
        PolicyRows x = due.told("role;row 1 2;permit all read using a<9;");
        planned(x, -1, "a<9", "c0p");
        planned(x, -1, "not a<9", "pc0");
        planned(x, -1, "not not a<9", "pc0");
        planned(x, -1, "a=a,b=b", "c0c1p");
        planned(x, -1, "a=a,b", "c1c0p");
        planned(x, -1, "not a<9,a=a", "c1pc0");
        PolicyRows free = due.told("role;row 1 2;permit all read;");
        planned(free, -1, "a", "pc0");
        planned(free, -1, "a=a,a=a,a=a,a=a,a=a", "pc0c1c2c3c4");
        planned(free, -1, "a+b+a+b+a,a+b+a+b,a+b+a,a+b,a", "pc4c3c2c1c0");
    }

    /** "either it is SILENT, or the one before is SILENT and no WHERE of a BARRIER; the POLICY never goes ahead" */
    private static void whatIsSilentOrBehindWhatIsSilentGoesAhead() {
        PolicyRows x = due.told("role;row 1 2;permit all read using a+b+a+b<99;view caller where a+b<9;view caller barrier where a+b<9;"
            + "view caller barrier where peek(a)<9;");
        planned(x, -1, "peek(a)", "pc0");
        planned(x, -1, "a/0", "pc0");
        planned(x, -1, "peek(a)+1,peek(a)", "pc0c1");
        planned(x, -1, "a+b+a+b+a+b<9,peek(a)", "pc1c0");
        planned(x, -1, "peek(a)+1,a", "c1pc0");
        planned(x, 0, "peek(a)", "w0pc0");
        planned(x, 1, "peek(a)", "w1pc0");
        planned(x, 2, "peek(a)", "w2pc0".replace("w2p", "pw2"));
        planned(x, 2, "b", "c0pw2");
        planned(x, 1, "b", "c0w1p");
        PolicyRows free = due.told("role;row 1 2;permit all read;view caller where a+b<9;view caller barrier where a+b<9;"
            + "view caller barrier where peek(a)<9;");
        planned(free, 0, "peek(a)", "pc0w0");
        planned(free, 1, "peek(a)", "pw1c0");
        planned(free, 2, "peek(a)", "pw2c0");
        planned(free, 0, "b", "pc0w0");
        planned(free, 1, "b", "pc0w1");
        planned(free, 2, "b", "pc0w2");
        PolicyRows two = due.told("role;permit all read;view caller barrier where a+b<9;view caller of 0 where peek(a);view caller of 0 where b;");
        planned(two, 1, "1", "pc0w0w1");
        planned(two, 2, "peek(1)", "pw2w0c0");
    }

    /** "the first STEP (from the front, each time anew)" */
    private static void theFirstStepFromTheFront() {
        PolicyRows x = due.told("role;row 1 2;permit all read;");
        planned(x, -1, "peek(a)+1,a<9,peek(b)", "pc1c0c2");
        planned(x, -1, "a<9,peek(b)", "pc1c0");
        planned(x, -1, "peek(a)+1,a+b<9,peek(b)", "pc0c2c1");
    }

    /** As above, as often as can be: all STEPS turned round, six and thirty times one ahead of another. */
    private static void allStepsTurnedRound() {
        PolicyRows x = due.told("role;row 1 2;permit all read using a+a+a+a+a+a<9;view caller where a+a+a+a+a+a;"
            + "view caller of 0 where not a+a+a+a+a;view caller of 1 where a+a+a+a+a;");
        planned(x, 2, "not a+a+a+a,a+a+a+a,a+a+a,a+a,a", "c4c3c2c1c0w2w1w0p");
        due.row("costs", i -> x.step(i, 2), 1, 3, 5, 7, 8, 9, 10, 11, 14);
        counts(x, 4, 1, 1, 1, 1, 1, 0, 0, 0, 0);
    }

    /** A QUERY "in place of another one": where a BARRIER stood, none is left. */
    private static void noBarrierIsLeft() {
        PolicyRows x = due.told("role;row 1 2;permit all read;" + "view caller barrier where a+b<9;view caller barrier of 0 where a+b<9;view caller barrier of 1 where a+b<9;");
        planned(x, 2, "peek(a)", "pw0w1w2c0");
        planned(x, -1, "a+b<9,peek(a)", "pc1c0");
        planned(x, 2, "peek(a)", "pw0w1w2c0");
        planned(x, -1, "a+b<9,a+b<9,a+b<9,peek(a)", "pc3c0c1c2");
    }

    // ---- how it RUNS

    /** No ROWS, and as many as can be. */
    private static void noRowsAndSixteen() {
        PolicyRows none = due.told("role;permit all read;");
        ask(none, 0, -1, "1/0");
        due.row("asked", none::asked, 0, 0, -1, -1, 2, 0, 0, 0);
        counts(none, 4, 0, 0);
        counts(none, 5, 0, 0);
        PolicyRows full = due.told("role;" + "row 1 2;".repeat(16) + "permit all read;");
        ask(full, 0, -1, "peek(a)");
        due.row("asked", full::asked, 16, 65535, -1, -1, 2, 16, 16, 0);
        counts(full, 4, 16, 16);
        counts(full, 5, 16, 16);
        PolicyRows hidden = due.told("role;" + "row 1 2;".repeat(16));
        ask(hidden, 0, -1, "1/0");
        due.row("asked", hidden::asked, 0, 0, -1, -1, 2, 0, 0, 0);
        counts(hidden, 4, 0, 0);
        counts(hidden, 5, 16, 0);
    }

    /** "if a WHERE or a CONDITION FAILS, all FAILS there" */
    private static void allFailsThere() {
        PolicyRows first = due.told("role;row 0 2;row 1 2;row 2 2;permit all read;");
        ask(first, 0, -1, "1/a");
        due.row("asked, at the first row", first::asked, -1, 0, 0, 1, 2, 0, 0, 0);
        counts(first, 4, 1, 1);
        counts(first, 5, 1, 1);
        PolicyRows last = due.told("role;" + "row 1 2;".repeat(15) + "row 0 2;permit all read;");
        ask(last, 0, -1, "1/a");
        due.row("asked, at the last row", last::asked, -1, 0, 15, 1, 2, 0, 0, 0);
        counts(last, 5, 16, 16);
        PolicyRows where = due.told("role;row 1 2;row 0 2;row 3 2;permit all read;view caller where 1/a+1;");
        ask(where, 0, 0, "peek(b),1/0");
        due.row("asked, in the last condition", where::asked, -1, 0, 0, 3, 4, 1, 2, 0);
        ask(where, 0, 0, "a-1,peek(5)");
        due.is("plan", plan(where), "pc0w0c1");
        due.row("asked, in a where", where::asked, -1, 0, 1, 2, 4, 0, 0, 0);
        counts(where, 4, 2, 2, 1, 0);
        counts(where, 5, 2, 2, 1, 0);
        PolicyRows behind = due.told("role;row 0 2;row 1 2;permit all read using a;");
        ask(behind, 0, -1, "1/a");
        due.row("asked, hidden by the policy", behind::asked, 1, 2, -1, -1, 2, 0, 0, 0);
        ask(behind, 0, -1, "a,2/(a-1)");
        due.row("asked, behind a condition", behind::asked, -1, 0, 1, 2, 3, 0, 0, 0);
        PolicyRows policy = due.told("role;row 0 2;row 1 2;permit all read using 1/a;");
        ask(policy, 0, -1, "1");
        due.row("asked, a policy that fails hides alone", policy::asked, 1, 2, -1, -1, 2, 0, 0, 0);
    }

    /** "TOLD: how often a STEP (wherever it stands) was come to by ROWS that the AS of the TABLE READS; DONE: by any (where it FAILED, too)" */
    private static void toldAndDone() {
        PolicyRows x = due.told("role;row 1 0;row 2 1;row 3 0;row 4 1;permit all read using b<1;");
        ask(x, 0, -1, "a-1,2/(a-3)");
        due.is("plan", plan(x), "c0pc1");
        counts(x, 4, 2, 1, 1);
        counts(x, 5, 3, 2, 1);
        due.row("asked", x::asked, -1, 0, 2, 2, 3, 0, 0, 0);
        ask(x, 0, -1, "0");
        counts(x, 4, 2, 0);
        counts(x, 5, 4, 0);
    }

    /** "PEEKS by WHERES and CONDITIONS: how many, their sum (an int that wraps); until it FAILS, that too", "PEEKS of POLICIES are not TOLD" */
    private static void peeksAndTheirSum() {
        PolicyRows x = due.told("role;row 1 1;row 2 1;row 3 1;row 4 1;permit all read using peek(9)and peek(8);view caller where peek(a)<9;");
        ask(x, 0, -1, "1");
        due.is("of policies", x.asked(5) * 100 + x.asked(6), 0);
        ask(x, 0, 0, "peek(10*a)+1");
        due.is("how many", x.asked(5), 8);
        due.is("their sum", x.asked(6), 110);
        ask(x, 0, 0, "1/(peek(10*a)-30)+1");
        due.row("asked", x::asked, -1, 0, 2, 2, 3, 6, 66, 0);
        ask(x, 0, -1, "peek(" + MAX + ")<0");
        due.is("four of the greatest", x.asked(5) * 100 + x.asked(6), 396);
        ask(x, 0, -1, "peek(" + MIN + ")<0");
        due.is("four of the least", x.asked(6), 0);
        ask(x, 0, -1, "a<2,peek(" + MIN + ")<0");
        due.is("one of the least", x.asked(6), Integer.MIN_VALUE);
        ask(x, 0, -1, "a<3,peek(" + MAX + ")");
        due.is("two of the greatest", x.asked(6), -2);
    }

    // ---- asked, step

    /** "NONE for all: there is none", "another what" */
    private static void askedOfNoQuery() {
        PolicyRows x = due.told("role;row 1 2;permit all read;");
        for (int time = 0; time < 2; time++) {
            for (int what = 0; what < 8; what++) {
                due.is("asked(" + what + ")", x.asked(what) == -1, time == 0 || what == 2 || what == 3);
            }
            for (int what : new int[] {-1, 8, 9, Integer.MIN_VALUE, Integer.MAX_VALUE}) {
                due.none("asked(" + what + ")", () -> x.asked(what));
            }
            ask(x, 0, -1, "1");
        }
    }

    /** Of a STEP: "there is none, another what" */
    private static void stepsThatThereAreNot() {
        PolicyRows x = due.told("role;row 1 2;permit all read;");
        due.none("step(0, 0) without a query", () -> x.step(0, 0));
        due.none("step(-1, 0) without a query", () -> x.step(-1, 0));
        ask(x, 0, -1, "a");
        for (int i : new int[] {-1, 2, 3, 8, 9, Integer.MIN_VALUE, Integer.MAX_VALUE}) {
            due.none("step(" + i + ", 0)", () -> x.step(i, 0));
        }
        for (int what : new int[] {-1, 6, 7, Integer.MIN_VALUE, Integer.MAX_VALUE}) {
            due.none("step(0, " + what + ")", () -> x.step(0, what));
        }
        due.row("step(0, .)", what -> x.step(0, what), 0, -1, 1, 0, 1, 1);
        due.row("step(1, .)", what -> x.step(1, what), 2, 0, 1, 1, 1, 1);
        due.is("tell with a fault", Due.tell(x, "x"), 1);
        due.is("it stays", plan(x), "pc0");
    }

    /** "Of the QUERY, as it RAN" */
    private static void askedAsItRan() {
        PolicyRows x = due.told("role;role;row 1 2;row 3 4;permit all any;view owner 1 where a;");
        ask(x, 0, 0, "a<2");
        x.image();
        x.turn(0, false);
        x.grant(0, 1, true);
        due.row("asked", x::asked, 1, 1, -1, -1, 3, 0, 0, 1);
        x.undo();
        x.undo();
        x.update(0, 0, 0, 9);
        x.delete(0, 1);
        x.insert(0, 1, 1, 1, 1);
        x.restore();
        due.row("asked", x::asked, 1, 1, -1, -1, 3, 0, 0, 1);
        counts(x, 4, 2, 2, 2);
    }

    public static void main(String[] args) {
        intsWrap();
        divisionsAreCutDownToZero();
        byZeroAllFails();
        aPeekIsToldThoughTheExprFails();
        testsAreOneOrZero();
        meAndHas();
        theDeepestExpr();
        silentIsWhatCannotFailOrTell();
        costs();
        someThatPermitAndAllThatRestrict();
        aPolicyThatIsOffIsOfNobody();
        conditionsAreAtMostFive();
        whoAsksWhat();
        whoItRunsAs();
        stepsAreTwoToNine();
        costOfThePolicy();
        onlyWhatCostsLessGoesAhead();
        whatIsSilentOrBehindWhatIsSilentGoesAhead();
        theFirstStepFromTheFront();
        allStepsTurnedRound();
        noBarrierIsLeft();
        noRowsAndSixteen();
        allFailsThere();
        toldAndDone();
        peeksAndTheirSum();
        askedOfNoQuery();
        stepsThatThereAreNot();
        askedAsItRan();
        due.end("QueryEdgeTest");
    }
}
