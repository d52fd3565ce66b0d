import java.util.Random;

/** Random TEXTS and QUERIES, most of them without a fault. */
final class Texts {
    private final Random random;
    private int columns;
    private int roles;
    private int views;

    Texts(Random random) {
        this.random = random;
    }

    private int upTo(int n) {
        return random.nextInt(n + 1);
    }

    private boolean oneIn(int n) {
        return random.nextInt(n) == 0;
    }

    private String oneOf(String... all) {
        return all[random.nextInt(all.length)];
    }

    private String gap() {
        return oneOf(" ", " ", " ", "  ", "\n", " \n ");
    }

    private String thin() {
        return oneOf("", "", "", " ", "\n");
    }

    String text() {
        StringBuilder text = new StringBuilder();
        columns = 2;
        roles = 0;
        views = 0;
        if (!oneIn(3)) {
            columns = 1 + random.nextInt(4);
            text.append(thin()).append("columns").append(thin()).append(oneIn(9) ? "0" : "").append(columns);
            text.append(thin()).append(';');
        }
        int firstRoles = oneIn(12) ? 0 : 1 + random.nextInt(6);
        for (int i = 0; i < firstRoles; i++) {
            text.append(roleLine());
        }
        String[] lines = lines(oneIn(12));
        for (String line : lines) {
            if (text.length() + line.length() <= 700) {
                text.append(line);
            }
        }
        return oneIn(8) ? spoilt(text.toString()) : text.toString();
    }

    private String roleLine() {
        StringBuilder line = new StringBuilder("role");
        for (int i = upTo(2); i > 0 && roles > 0; i--) {
            line.append(gap()).append(random.nextInt(roles));
        }
        roles++;
        return line.append(thin()).append(';').append(thin()).toString();
    }

    /** Rows, policies and views among each other; views stay in their order. */
    private String[] lines(boolean tooMany) {
        int rows = tooMany ? 14 + upTo(5) : oneIn(3) ? upTo(16) : upTo(7);
        int policies = tooMany ? 6 + upTo(4) : upTo(8);
        int viewsDue = tooMany ? upTo(5) : upTo(3);
        String[] lines = new String[rows + policies + viewsDue];
        for (int i = 0; i < lines.length; i++) {
            int kind = random.nextInt(rows + policies + viewsDue);
            if (kind < rows) {
                rows--;
                lines[i] = rowLine();
            } else if (kind < rows + policies) {
                policies--;
                lines[i] = policyLine();
            } else {
                viewsDue--;
                lines[i] = viewLine();
            }
        }
        return lines;
    }

    private String rowLine() {
        StringBuilder line = new StringBuilder("row");
        for (int i = 0; i < columns; i++) {
            line.append(gap()).append(oneIn(3) ? "-" : "").append(oneIn(4) ? upTo(99) : upTo(9));
        }
        return line.append(thin()).append(';').toString();
    }

    private String anyRole() {
        return oneIn(150) ? Integer.toString(upTo(12000)) : Integer.toString(random.nextInt(Math.max(roles, 1)));
    }

    private String policyLine() {
        StringBuilder line = new StringBuilder(oneIn(4) ? "restrict" : "permit");
        line.append(gap()).append(oneIn(2) || roles == 0 ? "all" : anyRole());
        line.append(gap()).append(oneOf("read", "read", "any", "any", "any", "insert", "update", "delete"));
        if (!oneIn(4)) {
            line.append(gap()).append("using").append(gap()).append(expr(upTo(3)));
        }
        if (oneIn(3)) {
            line.append(gap()).append("check").append(gap()).append(expr(upTo(2)));
        }
        return line.append(thin()).append(';').append(thin()).toString();
    }

    private String viewLine() {
        StringBuilder line = new StringBuilder("view").append(gap());
        line.append(oneIn(2) || roles == 0 ? "caller" : "owner" + gap() + anyRole());
        line.append(oneIn(2) ? gap() + "barrier" : "");
        if (views > 0 && !oneIn(3)) {
            line.append(gap()).append("of").append(gap()).append(random.nextInt(views));
        }
        views++;
        return line.append(gap()).append("where").append(gap()).append(expr(upTo(2))).append(';').toString();
    }

    String query(int itsColumns, int itsRoles) {
        columns = itsColumns;
        roles = itsRoles;
        StringBuilder text = new StringBuilder(expr(upTo(3)));
        for (int i = oneIn(12) ? 5 : upTo(4); i > 0; i--) {
            text.append(thin()).append(',').append(thin()).append(expr(upTo(2)));
        }
        return oneIn(10) ? spoilt(text.toString()) : text.toString();
    }

    String expr(int size) {
        if (oneIn(120)) {
            return wrapped(3 + upTo(4), oneIn(2));
        }
        if (oneIn(120)) {
            return "not ".repeat(4 + upTo(4)) + part(0);
        }
        int joins = size == 0 ? 0 : upTo(size > 2 ? 2 : 1);
        StringBuilder text = new StringBuilder(test(size));
        for (int i = 0; i < joins; i++) {
            text.append(gap()).append(oneOf("and", "or")).append(gap()).append(test(size - 1));
        }
        return text.toString();
    }

    private String wrapped(int times, boolean peeking) {
        return (peeking ? "peek(" : "(").repeat(times) + part(0) + ")".repeat(times);
    }

    private String test(int size) {
        String left = (oneIn(6) ? "not" + gap() : "") + sum(size);
        return oneIn(5) ? left : left + thin() + oneOf("<", "<", "=") + thin() + sum(Math.max(size - 1, 0));
    }

    private String sum(int size) {
        StringBuilder text = new StringBuilder(part(size));
        for (int i = size == 0 ? (oneIn(4) ? 1 : 0) : upTo(2); i > 0; i--) {
            text.append(thin()).append(oneOf("+", "-", "*", "/", "/")).append(thin()).append(part(size - 1));
        }
        return text.toString();
    }

    private String part(int size) {
        if (size > 0 && oneIn(4)) {
            return oneOf("(", "peek(", "peek (") + expr(size - 1) + thin() + ")";
        }
        int kind = random.nextInt(12);
        if (kind < 6) {
            return Character.toString((char) ('a' + random.nextInt(oneIn(400) ? 5 : columns)));
        }
        if (kind < 7) {
            return "me";
        }
        if (kind < 8 && roles > 0) {
            return "has " + anyRole();
        }
        return Integer.toString(oneIn(60) ? upTo(10500) : oneIn(4) ? upTo(99) : upTo(5));
    }

    private String spoilt(String text) {
        StringBuilder spoilt = new StringBuilder(text);
        for (int i = 1 + upTo(1); i > 0; i--) {
            int place = upTo(spoilt.length());
            switch (random.nextInt(4)) {
                case 0:
                    spoilt.insert(place, oneOf(";", ",", "(", ")", "+", "-", "*", "/", "<", "=", "1", "12345", " has ",
                        " not ", " a ", " e ", " using ", " columns ", " role ", "\t", "A", "\u00e9", "\u0000", " all "));
                    break;
                case 1:
                    spoilt.setLength(place);
                    break;
                default:
                    spoilt.delete(place, Math.min(spoilt.length(), place + 1 + upTo(6)));
                    break;
            }
        }
        return spoilt.length() > 700 ? spoilt.substring(0, 700) : spoilt.toString();
    }
}
