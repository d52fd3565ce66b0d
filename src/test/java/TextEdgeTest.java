/**
 * The terms, the TEXT and its FAULTS, promises 1, 2, 3 and 5: each sentence of the document that names a
 * boundary case stands above the test that it has of its own.
 */
public final class TextEdgeTest {
    private static final Due due = new Due();

    /** As a rule that is read with two ROLES and two COLUMNS: as USING, as CHECK, as WHERE and in a QUERY. */
    private static void rule(String rule, int kind, int place) {
        String[] heads = {"role;role;permit all any using ", "role;role;permit all any using a check ",
            "role;role;view caller where "};
        for (String head : heads) {
            due.text(head + rule + ";", kind, kind == 0 ? -1 : head.length() + place);
        }
        PolicyRows x = due.told("role;role;");
        due.is("query " + rule, Due.query(x, 1, -1, rule), kind);
        due.is("fault() of query " + rule, x.fault(), kind == 0 ? -1 : place);
    }

    // ---- terms

    /** "ROLES 0, 1 .. (at most 6)" */
    private static void rolesAreAtMostSix() {
        due.is("none", due.told("").count(0), 0);
        due.is("one", due.told("role;").count(0), 1);
        PolicyRows x = due.told("role;".repeat(6));
        due.is("six", x.count(0), 6);
        due.is("the last is 5", x.role(5, 1), 32);
        due.none("role 6", () -> x.role(6, 0));
        due.text("role;".repeat(7), 2, 30);
        due.text("role;".repeat(6) + " \nrole 0;", 2, 32);
        due.good("role;".repeat(6) + "row 1 2;permit 5 read using has 5;view owner 5 where 1;");
    }

    /** "a ROLE HAS itself, those it was given, and all that these HAVE" */
    private static void aRoleHasAllThatThoseHave() {
        PolicyRows told = due.told("role;role 0;role 1;role 2;role 3;role 4;");
        PolicyRows granted = due.told("role;".repeat(6));
        for (int role = 0; role < 5; role++) {
            due.is("granted", granted.grant(role, role + 1, true), true);
        }
        for (int role = 0; role < 6; role++) {
            due.is("a chain told, HAS of " + role, told.role(role, 1), (2 << role) - 1);
            due.is("was given, of " + role, told.role(role, 0), role == 0 ? 0 : 1 << role - 1);
            due.is("a chain granted, HAS of " + role, granted.role(role, 1), 64 - (1 << role));
        }
        PolicyRows all = due.told("role;role;role;role;role;role 4 3 2 1 0;");
        due.is("all others", all.role(5, 0) * 100 + all.role(5, 1), 3163);
        due.is("one of none", all.role(4, 0) * 100 + all.role(4, 1), 16);
    }

    /** "COLUMNS a, b .. (1 to 4; 2 without)" */
    private static void columnsAreOneToFour() {
        due.is("of a new object", new PolicyRows().count(1), 2);
        due.is("without", due.told("role;").count(1), 2);
        due.is("without, behind a text with four", tellAgain("columns 4;row 1 2 3 4;", "row 1 2;").count(1), 2);
        String letters = "abcd";
        for (int columns = 1; columns <= 4; columns++) {
            String head = "columns " + columns + ";role;row" + " 7".repeat(columns) + ";permit all read using ";
            PolicyRows x = due.told(head + letters.charAt(columns - 1) + "=7;");
            due.is("columns", x.count(1), columns);
            due.is("the last column is read", x.readers(0), 1);
            int behind = columns;
            due.none("cell behind the last", () -> x.cell(0, behind));
            due.text(head + (char) ('a' + columns) + "=7;", 3, head.length());
        }
        due.text("columns 0;", 2, 8);
        due.text("columns 5;", 2, 8);
    }

    private static PolicyRows tellAgain(String first, String second) {
        PolicyRows x = due.told(first);
        due.is("tell of " + second, Due.tell(x, second), 0);
        return x;
    }

    /** "ROWS 0, 1 .. (at most 16, as they are told, INSERTED)" */
    private static void rowsAreAtMostSixteen() {
        StringBuilder text = new StringBuilder("columns 1;role;permit all any;");
        for (int row = 0; row < 15; row++) {
            text.append("row ").append(row).append(';');
        }
        PolicyRows x = due.told(text.toString());
        due.is("fifteen", x.count(2), 15);
        due.is("the sixteenth is inserted", x.insert(0, 15, 0, 0, 0), 16);
        due.is("the seventeenth isn't", x.insert(0, 16, 0, 0, 0), -1);
        for (int row = 0; row < 16; row++) {
            due.is("in their order", x.cell(row, 0), row);
        }
        due.none("row 16", () -> x.cell(16, 0));
        due.good(text + "row 15;");
        due.text(text + "row 15;row 16;", 2, text.length() + 7);
        due.is("none", due.told("role;").count(2), 0);
    }

    /** "a number (-99 to 99) for each COLUMN" */
    private static void numbersGoToNinetyNine() {
        PolicyRows x = due.told("columns 4;row -99 99 -0 0;");
        due.row("cell", column -> x.cell(0, column), -99, 99, 0, 0);
        due.text("columns 4;row -99 99 0 -100;", 2, 24);
        due.text("columns 4;row 100 0 0 0;", 2, 14);
        due.text("columns 4;row 0 0 0 100;", 2, 20);
    }

    /** "POLICIES 0, 1 .. (at most 8)", "ON at first" */
    private static void policiesAreAtMostEight() {
        String eight = "permit all read;restrict all any;".repeat(4);
        PolicyRows x = due.told(eight);
        due.is("eight", x.count(3), 8);
        due.is("none", due.told("role;").count(3), 0);
        for (int policy = 0; policy < 8; policy++) {
            due.is("in their order", x.policy(policy, 0), policy % 2);
            due.is("on at first", x.policy(policy, 3), 1);
        }
        due.none("policy 8", () -> x.policy(8, 0));
        due.text(eight + "permit all read;", 2, eight.length());
        due.text(eight + "restrict all read;", 2, eight.length());
        x.turn(7, false);
        due.is("on at first in the next text, too", Due.tell(x, eight), 0);
        due.is("on", x.policy(7, 3), 1);
    }

    /** "VIEWS 0, 1 .. (at most 3)", "OF a lesser VIEW, or of the TABLE" */
    private static void viewsAreAtMostThree() {
        PolicyRows x = due.told("view caller where 1;view caller of 0 where 1;view caller of 1 where 1;");
        due.is("three", x.count(4), 3);
        due.is("none", due.told("role;").count(4), 0);
        due.row("view(., 2)", view -> x.view(view, 2), -1, 0, 1);
        due.none("view 3", () -> x.view(3, 0));
        due.text("view caller where 1;".repeat(4), 2, 60);
        due.good("view caller where 1;view caller where 1;view caller of 0 where 1;");
        due.text("view caller of 0 where 1;", 3, 15);
        due.text("view caller where 1;view caller of 1 where 1;", 3, 35);
        due.text("view caller where 1;view caller of 2 where 1;view caller where 1;", 3, 35);
        due.text("view caller where 1;view caller where 1;view caller of 2 where 1;", 3, 55);
        due.text("view caller where 1;view caller where 1;view caller of 3 where 1;", 3, 55);
    }

    // ---- TOKENS

    /** "A TEXT of at most 700 bytes" */
    private static void aTextHasAtMostSevenHundredBytes() {
        PolicyRows x = due.told("role" + " ".repeat(695) + ";");
        due.is("700 bytes", x.count(0), 1);
        due.text("role" + " ".repeat(696), 1, 700);
        due.text("role;" + " ".repeat(694) + "x", 1, 699);
        String longest = "permit all read using " + "1+".repeat(338) + "1;";
        due.is("length", longest.length(), 700);
        due.is("the longest EXPR", due.told(longest).policy(0, 4), 677);
        PolicyRows y = due.told("role;row 1 2;permit all read;");
        due.is("the longest CONDITION", Due.query(y, 0, -1, "0+".repeat(349) + "9"), 0);
        due.is("holds", y.asked(0), 1);
        due.is("its cost", y.step(1, 2), 699);
        due.is("the longest words", Due.query(y, 0, -1, "z".repeat(700)), 3);
        due.is("place", y.fault(), 0);
        due.is("the longest NUMBER", Due.query(y, 0, -1, "1".repeat(700)), 2);
    }

    /** "words (a .. z, the longest row)" */
    private static void wordsAreTheLongestRow() {
        due.at("rolerole;", 1, "rolerole");
        due.at("columnsrow;", 1, "columnsrow");
        due.at("permit all readusing 1;", 1, "readusing");
        due.at("role;permit all anya;", 1, "anya");
        due.at("rol e;", 1, "rol");
        due.at("role;permit al l read;", 1, "al");
        rule("az", 3, 0);
        rule("ab", 3, 0);
        rule("mea", 3, 0);
        rule("has1", 0, 0);
        rule("1or1and0", 0, 0);
        for (char behind : new char[] {'`', '{', '@', '[', 'A', 'Z'}) {
            due.text("role" + behind + ";", 1, 4);
            due.text("" + behind + "role;", 1, 0);
            rule("" + behind, 1, 0);
        }
    }

    /** "NUMBERS (1 to 4 digits)" */
    private static void numbersHaveOneToFourDigits() {
        PolicyRows x = due.told("columns 0001;role;role 0000;row 0099;row 0000;permit 0001 read using a=0099;permit all read using 9999;"
            + "view owner 0001 where 0000;view caller of 0000 where 1;");
        due.is("columns", x.count(1), 1);
        due.is("given", x.role(1, 0), 1);
        due.is("cell", x.cell(0, 0), 99);
        due.is("policy", x.policy(0, 1), 1);
        due.is("cost of 9999", x.policy(1, 4), 1);
        due.is("owner", x.view(0, 0), 1);
        due.is("of", x.view(1, 2), 0);
        rule("0", 0, 0);
        rule("0000", 0, 0);
        rule("00000", 2, 0);
        rule("1+10000", 2, 2);
        rule("1 0", 1, 2);
        rule("/1", 1, 0);
        rule("1:", 1, 1);
    }

    /** "blanks (32, 10) between them count for nothing" */
    private static void blanksCountForNothing() {
        due.is("none but blanks", due.told(" \n \n").count(0), 0);
        PolicyRows x = due.told("\n columns\n1 ; role\n;\nrow - \n 5\n; \n permit\nall  read using( a<0 ) ; \n");
        due.is("role reads row", x.readers(0), 1);
        due.is("cost", x.policy(0, 4), 3);
        for (int sign : new int[] {0, 9, 11, 13, 31, 33, 127, 128, 160, 255}) {
            due.text("role " + (char) sign + ";", 1, 5);
            due.text((char) sign + "role;", 1, 0);
            rule("a" + (char) sign + "<b", 1, 1);
            rule("a<" + (char) sign + "b", 1, 2);
        }
    }

    // ---- the TEXT

    /** "['columns' NUMBER ';'] LINE*" */
    private static void aTextMayBeEmpty() {
        due.good("");
        due.good("columns 3;");
        due.text("columns 3", 1, 9);
        due.text("columns;", 1, 7);
        due.text("columns", 1, 7);
        due.text("columns 3 3;", 1, 10);
        due.text("columns -3;", 1, 8);
    }

    /** "'role' ROLE*" and "A 'role' is given ROLES told ahead" */
    private static void aRoleIsGivenRolesToldAhead() {
        due.is("the same many times", due.told("role;role" + " 0".repeat(300) + ";").role(1, 0), 1);
        due.is("all ahead", due.told("role;role;role;role;role;role 0 1 2 3 4;").role(5, 0), 31);
        due.text("role 0;", 3, 5);
        due.text("role;role 1;", 3, 10);
        due.text("role;role 0 2;role;", 3, 12);
        due.text("role;role;role;role;role;role 5;", 3, 30);
        due.text("role;role a;", 1, 10);
        due.text("role;role all;", 1, 10);
    }

    /** "CELL: ['-'] NUMBER; as many as COLUMNS" */
    private static void aRowHasAsManyCellsAsColumns() {
        for (int columns = 1; columns <= 4; columns++) {
            String head = "columns " + columns + ";row" + " 1".repeat(columns - 1);
            due.text(head + ";", 1, head.length());
            due.good(head + " 2;");
            due.text(head + " 2 3;", 1, head.length() + 3);
            due.text(head + " -;", 1, head.length() + 2);
            due.text(head + " 2 -;", 1, head.length() + 3);
        }
        due.text("columns 1;row --1;", 1, 15);
        due.text("columns 1;row +1;", 1, 14);
        due.text("columns 1;row a;", 1, 14);
    }

    /** "['using' EXPR] ['check' EXPR]": none, one or both, in their order. */
    private static void usingAndCheckMayBeThere() {
        PolicyRows x = due.told("permit all any;permit all any using a;permit all any check a+b;permit all any using 1 check a<b;");
        due.row("policy(., 4)", policy -> x.policy(policy, 4), -1, 1, -1, 1);
        due.row("policy(., 5)", policy -> x.policy(policy, 5), -1, -1, 3, 3);
        due.at("permit all any check 1 using 1;", 1, "using");
        due.at("permit all any using 1 using 1;", 1, "using");
        due.at("permit all any check 1 check 1;", 1, "check");
        due.at("permit all any using;", 1, ";");
        due.at("permit all any check;", 1, ";");
        due.at("permit all any using check 1;", 3, "check");
        due.at("permit all;", 1, ";");
        due.at("permit read;", 1, "read");
        due.at("permit all all;", 1, "all");
    }

    /** "'view' ('caller' | 'owner' ROLE) ['barrier'] ['of' VIEW] 'where' EXPR" */
    private static void aViewHasAnOwnerAndAWhere() {
        due.good("role;view owner 0 where 1;view owner 0 barrier where 1;view owner 0 barrier of 1 where 1;");
        due.at("view where 1;", 1, "where");
        due.at("view barrier where 1;", 1, "barrier");
        due.at("view owner where 1;", 1, "where");
        due.at("view caller 0 where 1;", 1, "0");
        due.at("view caller barrier barrier where 1;", 1, "barrier");
        due.at("view caller of where 1;", 1, "where");
        due.at("view caller barrier;", 1, ";");
        due.at("view caller where;", 1, ";");
    }

    // ---- FAULTS

    /** "FAULTS, the first along the text" */
    private static void theFirstFaultAlongTheText() {
        due.text("permit 7 read;x;", 3, 7);
        due.text("columns 5;x;", 2, 8);
        due.text("row 1 100;role 5;x;", 2, 6);
        due.text("x;columns 5;role 0;", 1, 0);
        rule("c+12345+)", 3, 0);
        rule("12345+c+)", 2, 0);
        rule(")+12345+c", 1, 0);
    }

    /** "at a TOKEN's first byte" */
    private static void aFaultIsAtATokensFirstByte() {
        due.text("\n  roles;", 1, 3);
        due.text("row 1  9999;", 2, 7);
        due.text("role;permit \n 0123 read;", 3, 14);
        rule("  12345", 2, 2);
        rule("1  and \nnope", 3, 8);
    }

    /** "of one TOKEN the least" */
    private static void ofOneTokenTheLeastFault() {
        due.text("12345;", 1, 0);
        due.text("row 1 2 12345;", 1, 8);
        due.text("permit all 12345;", 1, 11);
        due.text("role 12345;", 2, 5);
        due.text("permit 12345 read;", 2, 7);
        due.text("view owner 12345 where 1;", 2, 11);
        due.text("view caller of 12345 where 1;", 2, 15);
        rule("has 12345", 2, 4);
        rule("a 12345", 1, 2);
        rule("((((((zz", 2, 6);
        rule("((((((12345", 2, 6);
        rule("((((((;", 1, 6);
        rule("((((((", 1, 6);
        rule("((((((<", 1, 6);
        rule("((((((-1", 1, 6);
        rule("((((((!", 1, 6);
        PolicyRows x = due.told("role;");
        due.is("an unknown word in the 6th CONDITION", Due.query(x, 0, -1, "1,1,1,1,1,zz"), 2);
        due.is("a sign in the 6th CONDITION", Due.query(x, 0, -1, "1,1,1,1,1,<"), 1);
        due.is("no 6th CONDITION", Due.query(x, 0, -1, "1,1,1,1,1,"), 1);
        due.is("place", x.fault(), 10);
    }

    /** "the text's length where it ends too soon" */
    private static void theTextsLengthWhereItEndsTooSoon() {
        String whole = "columns 2;role;role 0;row 1 -2;permit 0 any using not(a<1)check peek(b)+has 1;view owner 0 barrier where 1;"
            + "view caller of 0 where 1;";
        for (int n = 0; n <= whole.length(); n++) {
            PolicyRows x = new PolicyRows();
            Due.feed(x, whole);
            boolean isWhole = n == 0 || whole.charAt(n - 1) == ';';
            boolean isWithinAWord = !isWhole && n < whole.length() && Character.isLetter(whole.charAt(n - 1))
                && Character.isLetter(whole.charAt(n));
            if (isWithinAWord) {
                continue;
            }
            due.is("tell of " + whole.substring(0, n), x.tell(n), isWhole ? 0 : 1);
            due.is("fault() of " + whole.substring(0, n), x.fault(), isWhole ? -1 : n);
        }
        due.text("role \n ", 1, 7);
        due.text("columns 45", 2, 8);
        PolicyRows x = new PolicyRows();
        Due.feed(x, "columns 45;");
        due.is("a NUMBER that is cut", x.tell(9), 1);
        due.is("its place", x.fault(), 9);
        rule("1<", 1, 2);
        PolicyRows y = due.told("role;");
        due.is("no EXPR at all", Due.query(y, 0, -1, ""), 1);
        due.is("its place", y.fault(), 0);
        due.is("blanks alone", Due.query(y, 0, -1, " \n "), 1);
        due.is("its place", y.fault(), 3);
        due.is("an EXPR that ends too soon", Due.query(y, 0, -1, "1,peek( "), 1);
        due.is("its place", y.fault(), 8);
    }

    /** "'columns' but at the beginning" */
    private static void columnsButAtTheBeginning() {
        due.good(" \n columns 1;");
        due.text("columns 1;columns 1;", 1, 10);
        due.text("role;columns 1;", 1, 5);
        due.text("row 1 2;columns 2;", 1, 8);
        due.text(";columns 2;", 1, 0);
        due.text("role columns 2;", 1, 5);
    }

    /** "2 .. a NUMBER of 5 digits or more" */
    private static void aNumberOfFiveDigits() {
        for (String digits : new String[] {"00000", "00001", "10000", "99999", "000001", "4294967296", "18446744073709551617"}) {
            due.at("columns " + digits + ";", 2, digits);
            due.at("row 1 " + digits + ";", 2, digits);
            due.at("row " + digits + " 1;", 2, digits);
            due.at("row 1 -" + digits + ";", 2, digits);
            due.at("role;role;role " + digits + ";", 2, digits);
            due.at("role;role;permit " + digits + " read;", 2, digits);
            due.at("role;role;view owner " + digits + " where 1;", 2, digits);
            due.at("view caller where 1;view caller where 1;view caller of " + digits + " where 1;", 2, digits);
            rule(digits, 2, 0);
            rule("has " + digits, 2, 4);
            rule("1/" + digits, 2, 2);
        }
    }

    /** "(not in an EXPR) not as told (CELL, at its NUMBER: above 99)" */
    private static void aNumberNotAsTold() {
        due.at("columns 0;", 2, "0");
        due.at("columns 0000;", 2, "0000");
        due.at("columns 5;", 2, "5");
        due.at("columns 9999;", 2, "9999");
        due.good("row 99 -99;");
        due.at("row 99 100;", 2, "100");
        due.at("row 99 -100;", 2, "100");
        due.at("row 99 - \n 0100;", 2, "0100");
        due.at("row 9999 1;", 2, "9999");
        rule("100", 0, 0);
        rule("9999", 0, 0);
    }

    /** "the first TOKEN of the 7th 'role', the 17th 'row', the 9th POLICY, the 4th 'view'" */
    private static void theFirstTokenOfOneTooMany() {
        String roles = "role;".repeat(6);
        String rows = "row 1 2;".repeat(16);
        String policies = "permit all any;".repeat(8);
        String views = "view caller where 1;".repeat(3);
        String full = roles + rows + policies + views;
        due.good(full);
        for (String line : new String[] {"role", "role 99999", "row", "row 999", "permit", "permit 9", "restrict", "view", "view view"}) {
            due.text(full + " " + line, 2, full.length() + 1);
        }
        due.text(full + "columns", 1, full.length());
        due.text(roles + "roles", 1, roles.length());
        due.text(rows + "rows", 1, rows.length());
    }

    /** "of an EXPR within 6 others (a NUMBER, any word, a parenthesis; what is peeked is within its 'peek')" */
    private static void anExprWithinSixOthers() {
        String[] open = {"(", "peek(", "1+(", "not(", "has 0<peek("};
        for (String one : open) {
            rule(one.repeat(5) + "a" + ")".repeat(5), 0, 0);
            for (String first : new String[] {"1", "a", "zz", "not 1", "has 0", "peek(1)", "(1)", "or", "99999"}) {
                rule(one.repeat(6) + first + ")".repeat(6), 2, one.length() * 6);
            }
            for (String first : new String[] {")", "<", "*", "-1", "!"}) {
                rule(one.repeat(6) + first, 1, one.length() * 6);
            }
        }
        rule("(((((a)))))+(((((a)))))", 0, 0);
        rule("(((peek(peek((a))))))", 2, 14);
        rule("((((((a)", 2, 6);
    }

    /** "the seventh 'not' side by side" */
    private static void theSeventhNot() {
        String six = "not ".repeat(6);
        rule(six + "1", 0, 0);
        rule(six + "not 1", 2, 24);
        rule(six + "not", 2, 24);
        rule("1 and " + six + "not 1", 2, 30);
        rule(six + "1 or " + six + "1 and " + six + "1", 0, 0);
        rule(six + "(" + six + "1)", 0, 0);
        rule(six + "(" + six + "not 1)", 2, 49);
        rule(six, 1, 24);
        rule(six + "nott", 3, 24);
    }

    /** "3 any word where a PART must stand that is none (a COLUMN that there isn't, too)" */
    private static void aWordThatIsNoPart() {
        String[] words = {"columns", "role", "row", "permit", "restrict", "all", "read", "insert", "update", "delete", "any",
            "using", "check", "view", "caller", "owner", "barrier", "of", "where", "or", "and", "c", "d", "e", "z", "aa", "x"};
        for (String word : words) {
            rule(word, 3, 0);
            rule("not " + word, 3, 4);
            rule("1+" + word, 3, 2);
            rule("1*" + word, 3, 2);
            rule("1<" + word, 3, 2);
            rule("(" + word + ")", 3, 1);
            rule("peek(" + word + ")", 3, 5);
            rule("1 and " + word, 3, 6);
        }
        for (String word : new String[] {"not", "a", "me", "has", "peek", "where", "c", "zz"}) {
            rule("1 " + word, 1, 2);
        }
        rule("1 or", 1, 4);
        rule("1 and", 1, 5);
        for (String sign : new String[] {"+", "-", "*", "/", "<", "="}) {
            rule("1" + sign + "not 1", 3, 2);
        }
        rule("peek a", 1, 5);
        rule("has a", 1, 4);
        due.at("columns 1;permit all read using b;", 3, "b");
        due.at("columns 4;permit all read using e;", 3, "e");
        due.good("columns 4;permit all read using d;");
    }

    /** "a ROLE, a VIEW that isn't told ahead, however great" */
    private static void aRoleOrAViewThatIsNotToldAhead() {
        String two = "role;role;view caller where 1;view caller where 1;";
        for (String number : new String[] {"2", "3", "5", "6", "7", "8", "16", "100", "0002", "9999"}) {
            due.at(two + "role " + number + ";", 3, number);
            due.at(two + "permit " + number + " read;", 3, number);
            due.at(two + "view owner " + number + " where 1;", 3, number);
            due.at(two + "view caller of " + number + " where 1;", 3, number);
            rule("has " + number, 3, 4);
        }
        due.good(two + "role 1 0;permit 1 read using has 2;view owner 2 of 1 where has 2;");
        due.at("permit all read using has 0;", 3, "0");
        due.at("permit 0 read;role;", 3, "0");
        due.at("view owner 0 where 1;role;", 3, "0");
    }

    // ---- promises 1, 2, 3, 5

    /** "No ROLES, 2 COLUMNS." */
    private static void aNewObject() {
        PolicyRows x = new PolicyRows();
        due.row("count", x::count, 0, 2, 0, 0, 0, 0, 0, 0, 0, 0, 0, 0, 0);
        due.none("role 0", () -> x.role(0, 0));
        due.is("fault()", x.fault(), -1);
    }

    /** "Twenty bytes come behind the tape, of each number the highest first", "if it would have more than 700" */
    private static void feedGoesToSevenHundred() {
        PolicyRows x = new PolicyRows();
        due.is("role;row 1 2;row 3 4", x.feed(0x726f6c65, 0x3b726f77, 0x20312032, 0x3b726f77, 0x20332034), 20);
        due.is("; and blanks", x.feed(0x3b202020, 0x20202020, 0x20202020, 0x20202020, 0x20202020), 40);
        for (int i = 3; i <= 35; i++) {
            due.is("feed", x.feed(0x20202020, 0x20202020, 0x20202020, 0x20202020, 0x20202020), 20 * i);
        }
        for (int i = 0; i < 3; i++) {
            due.is("one more", x.feed(-1, -1, -1, -1, -1), -1);
            due.is("none come", x.count(9), 700);
        }
        due.is("tell", x.tell(700), 0);
        due.is("cells", x.cell(1, 0) * 10 + x.cell(1, 1), 34);
        due.is("empty", x.count(9), 0);
        due.is("feed goes on", x.feed(0x7fffffff, Integer.MIN_VALUE, -1, 0, 1), 20);
        due.is("byte 127 is the first", x.tell(20) * 100 + x.fault(), 100);
    }

    /** "The tape's first n bytes (it is empty then)", "the tape has not so many, n below 0 (nothing changes)" */
    private static void tellTakesTheFirstBytes() {
        PolicyRows x = due.told("role;role;row 1 2;");
        Due.feed(x, "role;row 5 6;row 7 8;");
        for (int n : new int[] {-1, Integer.MIN_VALUE, 41, 700, 701, Integer.MAX_VALUE}) {
            due.unfit("tell(" + n + ")", () -> x.tell(n));
        }
        due.is("tape", x.count(9), 40);
        due.is("roles", x.count(0), 2);
        due.is("status", x.count(10), 0);
        due.is("tell(13)", x.tell(13), 0);
        due.is("rows", x.count(2), 1);
        due.is("tape", x.count(9), 0);
        due.unfit("tell(1) of an empty tape", () -> x.tell(1));
        Due.feed(x, "x");
        due.is("tell(0)", x.tell(0), 0);
        due.is("tape", x.count(9), 0);
        due.is("all is gone", x.count(0) + x.count(2), 0);
        due.is("tell(0) of an empty tape", x.tell(0), 0);
        Due.feed(x, "role;row 1 2;");
        due.is("tell of all that the tape has", x.tell(20), 0);
        due.is("roles", x.count(0), 1);
    }

    /** "ACTS, what is SEEN, the QUERY, the image are gone (STATUS stays)"; of a FAULT "(all stays)" */
    private static void whatATextTakesAway() {
        String text = "columns 1;role;row 5;permit all any;";
        PolicyRows x = due.told(text);
        due.is("query", Due.query(x, 0, -1, "a"), 0);
        due.is("update", x.update(0, 0, 0, 7), 1);
        due.is("refused", x.update(0, 0, 0, 100), -1);
        due.is("see", x.see(0, 0, true), 1);
        x.image();
        for (int i = 2; i <= 9; i++) {
            due.is("see", x.see(0, 0, true), i == 9 ? -1 : i);
        }
        due.is("a FAULT", Due.tell(x, text + "x"), 1);
        due.row("all stays: count", x::count, 1, 1, 1, 1, 0, 1, 0, 1, 8, 0, 1, 1, 1);
        due.is("the query stays", x.asked(0) + x.step(1, 2), 2);
        due.is("the image stays", x.restore(), true);
        due.is("seen of the image", x.count(8), 1);
        due.is("told", Due.tell(x, text), 0);
        due.row("gone: count", x::count, 1, 1, 1, 1, 0, 1, 0, 0, 0, 0, 1, 1, 1);
        due.is("cell", x.cell(0, 0), 5);
        due.is("no act", x.undo(), -1);
        due.is("no query", x.asked(0), -1);
        due.none("no step", () -> x.step(0, 0));
        due.is("no image", x.restore(), false);
    }

    /** "all anew": a text as full as can be, time and again, with faults between; nothing of another shines through. */
    private static void allAnewTimeAndAgain() {
        String full = "columns 1;" + "role;".repeat(6) + "row 1;".repeat(16) + "permit all any using a check a<9;".repeat(8)
            + "view owner 5 barrier where a<9;view caller of 0 where a=1;view caller of 1 where a/2;";
        String other = "row -1 -2;restrict all read check b;view caller where b<a;role;role 0;permit 1 any using b<a;";
        PolicyRows x = new PolicyRows();
        for (int time = 0; time < 3; time++) {
            due.is("tell of a full text", Due.tell(x, full), 0);
            due.row("count", x::count, 6, 1, 16, 8, 3, 96, 255, 0, 0, 0, time, 0, 0);
            due.row("policy 7", what -> x.policy(7, what), 0, -1, 4, 1, 1, 3, 0);
            due.row("view 2", what -> x.view(2, what), -1, 0, 1, 3, 1);
            due.is("acts", x.turn(0, false) && x.grant(0, 5, true) && x.grant(4, 0, true), true);
            due.is("seen", x.see(0, 0, true), 1);
            due.is("a full text and more", Due.tell(x, full + "row 2;"), 2);
            due.is("tell of another", Due.tell(x, other), 0);
            due.row("count", x::count, 2, 2, 1, 2, 1, 1, 1, 0, 0, 0, time + 1, 0, 0);
            due.row("role 0", what -> x.role(0, what), 0, 1, 0, 1);
            due.row("role 1", what -> x.role(1, what), 1, 3, 1, 3);
            due.row("policy 0", what -> x.policy(0, what), 1, -1, 0, 1, -1, 1, 0);
            due.row("view 0", what -> x.view(0, what), -1, 0, -1, 3, 1);
        }
    }

    /** "The place of the latest FAULT of tell(), query(), if the latest of both that threw nothing had one; NONE without." */
    private static void theLatestFault() {
        PolicyRows x = new PolicyRows();
        due.is("none", x.fault(), -1);
        due.is("tell", Due.tell(x, "x"), 1);
        due.is("the first place", x.fault(), 0);
        due.unfit("tell(1)", () -> x.tell(1));
        due.is("what throws changes nothing", x.fault(), 0);
        due.is("tell", Due.tell(x, "role;row 1 2;"), 0);
        due.is("none", x.fault(), -1);
        due.is("query", Due.query(x, 0, -1, "1,zz"), 3);
        due.is("of a query", x.fault(), 2);
        due.none("query(1, -1, 0)", () -> x.query(1, -1, 0));
        due.unfit("query(0, -1, 1)", () -> x.query(0, -1, 1));
        due.is("what throws changes nothing", x.fault(), 2);
        due.is("another tell", Due.tell(x, "role;" + " ".repeat(694) + "x"), 1);
        due.is("the last place", x.fault(), 699);
        due.is("query", Due.query(x, 0, -1, "1"), 0);
        due.is("none", x.fault(), -1);
    }

    public static void main(String[] args) {
        rolesAreAtMostSix();
        aRoleHasAllThatThoseHave();
        columnsAreOneToFour();
        rowsAreAtMostSixteen();
        numbersGoToNinetyNine();
        policiesAreAtMostEight();
        viewsAreAtMostThree();
        aTextHasAtMostSevenHundredBytes();
        wordsAreTheLongestRow();
        numbersHaveOneToFourDigits();
        blanksCountForNothing();
        aTextMayBeEmpty();
        aRoleIsGivenRolesToldAhead();
        aRowHasAsManyCellsAsColumns();
        usingAndCheckMayBeThere();
        aViewHasAnOwnerAndAWhere();
        theFirstFaultAlongTheText();
        aFaultIsAtATokensFirstByte();
        ofOneTokenTheLeastFault();
        theTextsLengthWhereItEndsTooSoon();
        columnsButAtTheBeginning();
        aNumberOfFiveDigits();
        aNumberNotAsTold();
        theFirstTokenOfOneTooMany();
        anExprWithinSixOthers();
        theSeventhNot();
        aWordThatIsNoPart();
        aRoleOrAViewThatIsNotToldAhead();
        aNewObject();
        feedGoesToSevenHundred();
        tellTakesTheFirstBytes();
        whatATextTakesAway();
        allAnewTimeAndAgain();
        theLatestFault();
        due.end("TextEdgeTest");
    }
}
