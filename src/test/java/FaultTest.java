/** Promises 3 to 5: what a TEXT and a QUERY may say, and the FAULT and its place where they may not. */
public final class FaultTest {
    private static final Due due = new Due();

    private static void text(String text, int kind, int place) {
        due.text(text, kind, place);
    }

    private static void good(String text) {
        text(text, 0, -1);
    }

    private static void at(String text, int kind, String token) {
        due.at(text, kind, token);
    }

    private static void cut(String text) {
        text(text, 1, text.length());
    }

    /** As a USING of a POLICY with two ROLES and two COLUMNS. */
    private static void rule(String rule, int kind, int place) {
        String head = "role;role;permit all read using ";
        text(head + rule + ";", kind, kind == 0 ? -1 : head.length() + place);
    }

    private static void query(String text, int kind, int place) {
        PolicyRows x = due.told("role;role;row 1 2;permit all read;");
        due.is("query " + text, Due.query(x, 0, -1, text), kind);
        due.is("fault() of query " + text, x.fault(), place);
        due.is("count(10) of query " + text, x.count(10), kind == 0 ? 0 : 1);
        due.is("asked(0) of query " + text, x.asked(0) == -1 && x.asked(4) == -1, kind != 0);
    }

    private static void goodTexts() {
        good("");
        good("  \n ");
        good("columns1;");
        good(" columns 4 ;row 1 -2 03 - 99;");
        good("columns 0003;row 1 2 3;");
        good("role;role 0;role 0 1 1 0;");
        good("role;permit0read;restrict all any using a check b;permit all insert check me;");
        good("role;view caller where 1;view owner 0 barrier of 0 where has 0;view caller of 1 where peek(a);");
        good("row-1-2;row 0 0;");
        good("permit all read using 1;");
    }

    private static void misplaced() {
        at("x;", 1, "x");
        at("role;columns 2;", 1, "columns");
        at("columns 2;columns 2;", 1, "columns");
        at("columns a;", 1, "a");
        at("columns 2 role;", 1, "role");
        at(";", 1, ";");
        at("role;;", 1, ";");
        at("role -1;", 1, "-");
        at("role all;", 1, "all");
        at("row 1;", 1, ";");
        at("row 1 2 3;", 1, "3");
        at("row 1 --2;", 1, "-2");
        at("row 1 a;", 1, "a");
        at("permit some read;", 1, "some");
        at("permit all write;", 1, "write");
        at("permit all 0;", 1, "0");
        at("permit all read a;", 1, "a");
        at("permit all read check 1 using 1;", 1, "using");
        at("permit all read using 1 using 1;", 1, "using");
        at("role;view 0 where 1;", 1, "0");
        at("role;view owner all where 1;", 1, "all");
        at("role;view owner 0 caller where 1;", 1, "caller");
        at("view caller of 0 barrier where 1;", 3, "0");
        at("view caller where 1;view caller of 0 barrier where 1;", 1, "barrier");
        at("view caller;", 1, ";");
        at("view caller using 1;", 1, "using");
        at("roles;", 1, "roles");
        at("sole;", 1, "sole");
        at("zzz;", 1, "zzz");
        at("rolez;", 1, "rolez");
        at("row 1 2z;", 1, "z");
        for (int sign = 0; sign < 256; sign++) {
            boolean isDigit = sign >= '0' && sign <= '9';
            if (sign != ' ' && sign != '\n' && sign != ';' && !isDigit) {
                text("role" + " " + (char) sign, 1, 5);
                rule("1" + (char) sign + ")", 1, "+-*/<=".indexOf(sign) >= 0 ? 2 : 1);
            }
        }
        at("Role;", 1, "R");
        at("role\t;", 1, "\t");
        at("role\u00e9;", 1, "\u00e9");
        at("role\u0000;", 1, "\u0000");
        at("role\r;", 1, "\r");
        at("role,", 1, ",");
        at("permit all read using 1 , 2;", 1, ",");
        cut("role");
        cut("role  ");
        cut("columns");
        cut("columns 2");
        cut("row 1");
        cut("row 1 2");
        cut("row 1 -");
        cut("permit");
        cut("permit all");
        cut("permit all read");
        cut("permit all read using");
        cut("permit all read using (1");
        cut("permit all read using 1 +\n");
        cut("view caller where");
        cut("view caller of");
    }

    private static void tooMuch() {
        at("columns 0;", 2, "0");
        at("columns 5;", 2, "5");
        at("columns 12345;", 2, "12345");
        at("row 1 100;", 2, "100");
        at("row 1 -100;", 2, "100");
        at("row 1 9999;", 2, "9999");
        at("row 00001 2;", 2, "00001");
        at("row 1 2 00003;", 1, "00003");
        at("12345;", 1, "12345");
        at("role;role 00000;", 2, "00000");
        at("role;permit 12345 read;", 2, "12345");
        good("role;".repeat(6));
        at("role;".repeat(7), 2, "role");
        at("role;".repeat(6) + "role 9", 2, "role");
        good("row 1 2;".repeat(16));
        at("row 1 2;".repeat(17), 2, "row");
        good("permit all read;restrict all any;".repeat(4));
        at("permit all read;restrict all any;".repeat(4) + "restrict", 2, "restrict");
        at("permit all read;restrict all any;".repeat(4) + "permit all read;", 2, "permit");
        good("view caller where 1;".repeat(3));
        good("permit all any using 1 check 2;".repeat(8) + "view caller where 1;".repeat(3));
        at("view caller where 1;".repeat(4), 2, "view");
        at("permit all read;".repeat(8) + "policy", 1, "policy");
    }

    private static void unknown() {
        at("role 0;", 3, "0");
        at("role;role 1;", 3, "1");
        at("role;role 9999;", 3, "9999");
        at("permit 0 read;role;", 3, "0");
        at("role;permit 1 read;", 3, "1");
        at("role;permit 6 read;", 3, "6");
        at("role;view owner 7 where 1;", 3, "7");
        at("role;role;view owner 2 where 1;", 3, "2");
        at("role;role;permit 2 read;", 3, "2");
        at("role;role;role 2;", 3, "2");
        at("view caller of 0 where 1;", 3, "0");
        at("view caller where 1;view caller of 2 where 1;", 3, "2");
        at("permit all read using has 0;role;", 3, "0");
        at("columns 1;permit all read using b;", 3, "b");
    }

    private static void rules() {
        rule("1", 0, 0);
        rule("9999", 0, 0);
        rule("10000", 2, 0);
        rule("a+b*me-has 1/2<peek(1)and not not a=b or 1", 0, 0);
        rule("c", 3, 0);
        rule("e", 3, 0);
        rule("aa", 3, 0);
        rule("using", 3, 0);
        rule("and", 3, 0);
        rule("1+not a", 3, 2);
        rule("1<not a", 3, 2);
        rule("a<b<1", 1, 3);
        rule("a=b=1", 1, 3);
        rule("(a<b)<1", 0, 0);
        rule("-1", 1, 0);
        rule("1--1", 1, 2);
        rule("1 2", 1, 2);
        rule("1 a", 1, 2);
        rule("a b", 1, 2);
        rule("1 12345", 1, 2);
        rule("1)", 1, 1);
        rule("()", 1, 1);
        rule("(1", 1, 2);
        rule("peek 1", 1, 5);
        rule("peek()", 1, 5);
        rule("peek(1", 1, 6);
        rule("has a", 1, 4);
        rule("has (1)", 1, 4);
        rule("has 2", 3, 4);
        rule("has 9999", 3, 4);
        rule("has 12345", 2, 4);
        rule("not", 1, 3);
        rule("1 or", 1, 4);
        rule("1 and;", 1, 5);
        rule("1 not", 1, 2);
        rule("", 1, 0);
        rule("check 1", 3, 0);
    }

    private static void depths() {
        rule("(((((1)))))", 0, 0);
        rule("((((((1))))))", 2, 6);
        rule("((((((12345))))))", 2, 6);
        rule("((((((zz))))))", 2, 6);
        rule("((((((not 1))))))", 2, 6);
        rule("(((((((1)))))))", 2, 6);
        rule("(((((()", 1, 6);
        rule("((((((+", 1, 6);
        rule("peek(peek(peek(peek(peek(1)))))", 0, 0);
        rule("peek(peek(peek(peek(peek(peek(1))))))", 2, 30);
        rule("(((((peek(1))))))", 2, 10);
        rule("peek((((((1))))))", 2, 10);
        rule("(1)+(1)+(1)+(1)+(1)+(1)+(1)", 0, 0);
        rule("not not not not not not 1", 0, 0);
        rule("not not not not not not not 1", 2, 24);
        rule("not not not(not not not not not not 1)", 0, 0);
        rule("not not not not not not(not 1)", 0, 0);
        rule("not not not not 1 and not not not not 1", 0, 0);
        rule("not not not not not not or", 3, 24);
    }

    private static void queries() {
        query("1", 0, -1);
        query(" a , b , 1 , 2 , has 1 ", 0, -1);
        query("", 1, 0);
        query("   ", 1, 3);
        query("1,", 1, 2);
        query(",1", 1, 0);
        query("1,,1", 1, 2);
        query("1;", 1, 1);
        query("1 1", 1, 2);
        query("1,2,3,4,5", 0, -1);
        query("1,2,3,4,5,6", 2, 10);
        query("1,2,3,4,5,zz", 2, 10);
        query("1,2,3,4,5,(", 2, 10);
        query("1,2,3,4,5,12345", 2, 10);
        query("1,2,3,4,5,-1", 1, 10);
        query("1,2,3,4,5,", 1, 10);
        query("1,2,3,4,5;", 1, 9);
        query("a,c", 3, 2);
        query("has 2", 3, 4);
        query("columns", 3, 0);
        query("1,((((((1))))))", 2, 8);
    }

    /** What stays and what goes when there is a fault, or the tape is too short. */
    private static void allStays() {
        PolicyRows x = due.told("columns 1;role;role 0;row 5;permit all read using a<9;permit 1 any;view caller where 1;");
        due.is("query", Due.query(x, 0, 0, "a,1/1"), 0);
        due.is("see", x.see(0, 0, true), 1);
        due.is("turn", x.turn(0, false), true);
        x.image();
        due.is("tell", Due.tell(x, "columns 3;role;row 1 1 1;permit all read using b+c+9;view caller where x;"), 3);
        due.is("fault()", x.fault(), 71);
        int[] counts = {2, 1, 1, 2, 1, 1, 0, 1, 1, 0, 1, 0, 0};
        for (int i = 0; i < counts.length; i++) {
            due.is("count(" + i + ")", x.count(i), counts[i]);
        }
        due.is("cell", x.cell(0, 0), 5);
        due.is("policy cost", x.policy(0, 4), 3);
        due.is("asked(4)", x.asked(4), 4);
        due.is("query with a fault", Due.query(x, 1, -1, "c"), 3);
        due.is("asked(4) stays", x.asked(4), 4);
        due.is("asked(7) stays", x.asked(7), 0);
        Due.feed(x, "role;");
        due.unfit("tell(21)", () -> x.tell(21));
        due.unfit("tell(-1)", () -> x.tell(-1));
        due.unfit("query(0, -1, 21)", () -> x.query(0, -1, 21));
        due.unfit("query(0, 0, -1)", () -> x.query(0, 0, -1));
        due.none("query(2, 0, -1)", () -> x.query(2, 0, -1));
        due.none("query(-1, 0, 0)", () -> x.query(-1, 0, 0));
        due.none("query(0, 1, 0)", () -> x.query(0, 1, 0));
        due.none("query(0, -2, 0)", () -> x.query(0, -2, 0));
        due.is("fault() stays", x.fault(), 0);
        due.is("tape stays", x.count(9), 20);
        due.is("status", x.count(10), 2);
        due.is("restore()", x.restore(), true);
        due.is("tell(5)", x.tell(5), 0);
        due.is("fault() is gone", x.fault(), -1);
        due.is("status stays", x.count(10), 2);
        due.is("asked is gone", x.asked(4), -1);
        due.none("step is gone", () -> x.step(0, 0));
        due.is("acts are gone", x.count(7), 0);
        due.is("seen is gone", x.count(8), 0);
        due.is("columns as without", x.count(1), 2);
        due.is("image is gone", x.restore(), false);
    }

    public static void main(String[] args) {
        goodTexts();
        misplaced();
        tooMuch();
        unknown();
        rules();
        depths();
        queries();
        allStays();
        due.end("FaultTest");
    }
}
