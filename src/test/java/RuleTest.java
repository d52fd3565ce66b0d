/** The language of rules: what it gives, when it FAILS, its PEEKS, its COST and whether it is SILENT. */
public final class RuleTest {
    private static final Due due = new Due();

    /** One ROW (7, -3) that all READ; role 1 HAS 0; the rule is the one CONDITION of role 1. */
    private static PolicyRows run(String rule) {
        PolicyRows x = due.told("role;role 0;role;row 7 -3;permit all read;");
        due.is("query " + rule, Due.query(x, 1, -1, rule), 0);
        return x;
    }

    private static void gives(String rule, long number) {
        PolicyRows x = run("(" + rule + ")=" + (number < 0 ? "0-" + -number : "" + number));
        due.is(rule + " is " + number, x.asked(0), 1);
    }

    private static void holds(String rule, boolean is) {
        due.is(rule + " holds", run(rule).asked(0), is ? 1 : 0);
    }

    private static void fails(String rule, int peeks, int sum) {
        PolicyRows x = run(rule);
        due.is(rule + " fails: asked(0)", x.asked(0), -1);
        due.is(rule + " fails: asked(1)", x.asked(1), 0);
        due.is(rule + " fails: asked(2)", x.asked(2), 0);
        due.is(rule + " peeks", x.asked(5), peeks);
        due.is(rule + " sum of peeks", x.asked(6), sum);
    }

    private static void peeks(String rule, int peeks, int sum) {
        PolicyRows x = run(rule);
        due.is(rule + " does not fail", x.asked(2), -1);
        due.is(rule + " peeks", x.asked(5), peeks);
        due.is(rule + " sum of peeks", x.asked(6), sum);
    }

    private static void cost(String rule, int cost, boolean silent) {
        PolicyRows x = due.told("role;role;permit all read using " + rule + " check " + rule + ";view caller where " + rule + ";");
        due.is("cost of using " + rule, x.policy(0, 4), cost);
        due.is("cost of check " + rule, x.policy(0, 5), cost);
        due.is("cost of where " + rule, x.view(0, 3), cost);
        due.is(rule + " is silent", x.view(0, 4), silent ? 1 : 0);
        due.is("query " + rule, Due.query(x, 0, -1, rule), 0);
        int place = x.step(0, 0) == 2 ? 0 : 1;
        due.is("cost of condition " + rule, x.step(place, 2), cost);
        due.is("condition is silent: " + rule, x.step(place, 3), silent ? 1 : 0);
    }

    private static void numbers() {
        gives("a", 7);
        gives("b", -3);
        gives("me", 1);
        gives("0012", 12);
        gives("1+2*3", 7);
        gives("(1+2)*3", 9);
        gives("10-3-2", 5);
        gives("100/7/2", 7);
        gives("100/7*2", 28);
        gives("b/2", -1);
        gives("a/b", -2);
        gives("a/(0-2)", -3);
        gives("1-b", 4);
        holds("9999*9999*21<0", false);
        holds("9999*9999*22<0", true);
        holds("8192*8192*32/(0-1)=8192*8192*32", true);
        holds("8192*8192*32-1=9999*9999*21+4790*9999+8416", true);
        gives("peek(a)+peek(b)", 4);
        gives("has 0", 1);
        gives("has 1", 1);
        gives("has 2", 0);
        gives("has 0+has 1+has 2", 2);
    }

    private static void tests() {
        gives("a<8", 1);
        gives("a<7", 0);
        gives("b<a", 1);
        gives("a=7", 1);
        gives("a=8", 0);
        gives("a or b", 1);
        gives("0 or 0", 0);
        gives("0 or b", 1);
        gives("a and b", 1);
        gives("a and 0", 0);
        gives("not a", 0);
        gives("not 0", 1);
        gives("not not a", 1);
        gives("not a=7", 0);
        gives("not a=8", 1);
        gives("not 0+5", 0);
        gives("1 or 1 and 0", 1);
        gives("(1 or 1) and 0", 0);
        gives("0 and 0 or 1", 1);
        gives("not 1 or 1", 1);
        gives("not 1 and 0", 0);
        holds("a", true);
        holds("b", true);
        holds("0", false);
        holds("a-7", false);
    }

    private static void failures() {
        fails("1/0", 0, 0);
        fails("1 or 1/0", 0, 0);
        fails("0 and 1/0", 0, 0);
        fails("not (1/(a-7))", 0, 0);
        fails("a/(b+3)=0", 0, 0);
        fails("peek(1/0)", 1, 0);
        fails("1/0+peek(5)", 1, 5);
        fails("peek(4)+1/0+peek(5)", 2, 9);
        peeks("peek(a)=8", 1, 7);
        peeks("peek(peek(b)+1)", 2, -5);
        peeks("0 and peek(6)", 1, 6);
        peeks("1 or peek(6)", 1, 6);
        peeks("peek(9999*9999*21)+peek(9999*9999*21)", 2, 2 * 9999 * 9999 * 21);
    }

    private static void costs() {
        cost("1", 1, true);
        cost("a", 1, true);
        cost("((a))", 1, true);
        cost("has 1", 1, true);
        cost("has 1+me", 3, true);
        cost("peek(a)", 2, false);
        cost("not a<b", 4, true);
        cost("a and not (b or 1)", 6, true);
        cost("a/2", 3, true);
        cost("a/02", 3, true);
        cost("a/0", 3, false);
        cost("a/00", 3, false);
        cost("a/(2)", 3, false);
        cost("a/b", 3, false);
        cost("a/2/b", 5, false);
        cost("a/b/2", 5, false);
        cost("a/2*b/3", 7, true);
        cost("1/has 1", 3, false);
        cost("(a/2)", 3, true);
        cost("a/ \n 2", 3, true);
    }

    public static void main(String[] args) {
        numbers();
        tests();
        failures();
        costs();
        due.end("RuleTest");
    }
}
