/** The example of README.md: a text is told, a query asked, a row changed. */
public final class Example {
    /** Twenty bytes a call, the highest of each number first; blanks fill up the last twenty. */
    private static void feed(PolicyRows x, String text) {
        for (int i = 0; i < text.length(); i += 20) {
            int[] five = new int[5];
            for (int j = 0; j < 20; j++) {
                int sign = i + j < text.length() ? text.charAt(i + j) : ' ';
                five[j / 4] = five[j / 4] << 8 | sign;
            }
            x.feed(five[0], five[1], five[2], five[3], five[4]);
        }
    }

    private static int tell(PolicyRows x, String text) {
        feed(x, text);
        return x.tell(text.length());
    }

    private static int query(PolicyRows x, int user, int target, String text) {
        feed(x, text);
        return x.query(user, target, text.length());
    }

    public static void main(String[] args) {
        PolicyRows x = new PolicyRows();
        String text = "role; role 0; row 1 10; row 2 0; row 3 7;"
            + "permit all read using a<2; permit 1 any; restrict all read using not a=3;"
            + "view owner 1 barrier where 10/b<4;";
        System.out.println("tell: " + tell(x, text));
        System.out.println("readers of row 0, as bits: " + x.readers(0));
        System.out.println("readers of row 1, as bits: " + x.readers(1));
        System.out.println("roles that 0 lacks to see row 1, as bits: " + x.toSee(0, 1));

        System.out.println("query of the table: " + query(x, 0, PolicyRows.NONE, "peek(b)=10, a<5"));
        System.out.println("rows of the answer, as bits: " + x.asked(1));
        for (int i = 0; i < x.asked(4); i++) {
            System.out.println("step " + i + ": kind " + x.step(i, 0) + ", cost " + x.step(i, 2)
                + ", silent " + x.step(i, 3) + ", told " + x.step(i, 4) + ", done " + x.step(i, 5));
        }
        System.out.println("query of view 0: " + query(x, 0, 0, "a<5"));
        System.out.println("it failed at row " + x.asked(2) + ", step " + x.asked(3));

        System.out.println("role 1 updates row 1: " + x.update(1, 1, 1, 5));
        System.out.println("role 0 deletes row 1: " + x.delete(0, 1));
        System.out.println("acts left when one is undone: " + x.undo());
        System.out.println("a text with a fault: " + tell(x, "role; permit 1 read;") + " at " + x.fault());
    }
}
