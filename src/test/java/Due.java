import java.util.NoSuchElementException;

/** What tests share: calls whose answers are due, texts fed to the tape, and how it ends. */
final class Due {
    private int wrong = 0;
    private int asked = 0;

    interface Call {
        long answer();
    }

    void is(String call, long got, long want) {
        asked++;
        if (got != want) {
            wrong++;
            System.out.println(call + " answered " + got + ", due is " + want);
        }
    }

    void is(String call, boolean got, boolean want) {
        is(call, got ? 1 : 0, want ? 1 : 0);
    }

    void is(String call, String got, String want) {
        asked++;
        if (!got.equals(want)) {
            wrong++;
            System.out.println(call + " answered " + got + ", due is " + want);
        }
    }

    /** It must throw that very class. */
    void fails(String call, Class<? extends RuntimeException> want, Call tried) {
        asked++;
        try {
            wrong++;
            System.out.println(call + " answered " + tried.answer() + ", due is " + want.getName());
        } catch (RuntimeException e) {
            if (e.getClass() == want) {
                wrong--;
            } else {
                System.out.println(call + " threw " + e + ", due is " + want.getName());
            }
        }
    }

    void none(String call, Call tried) {
        fails(call, NoSuchElementException.class, tried);
    }

    void unfit(String call, Call tried) {
        fails(call, IllegalArgumentException.class, tried);
    }

    static void feed(PolicyRows x, String text) {
        for (int i = 0; i < text.length(); i += 20) {
            int[] five = new int[5];
            for (int j = 0; j < 20; j++) {
                int sign = i + j < text.length() ? text.charAt(i + j) & 255 : ' ';
                five[j / 4] = five[j / 4] << 8 | sign;
            }
            x.feed(five[0], five[1], five[2], five[3], five[4]);
        }
    }

    static int tell(PolicyRows x, String text) {
        feed(x, text);
        return x.tell(text.length());
    }

    static int query(PolicyRows x, int user, int target, String text) {
        feed(x, text);
        return x.query(user, target, text.length());
    }

    /** A new object that was told a text without a fault. */
    PolicyRows told(String text) {
        PolicyRows x = new PolicyRows();
        is("tell of " + text, tell(x, text), 0);
        return x;
    }

    /** Of a new object: what tell() and fault() answer, that it counts once, and that the tape is empty then. */
    void text(String text, int kind, int place) {
        PolicyRows x = new PolicyRows();
        is("tell of " + text, tell(x, text), kind);
        is("fault() of " + text, x.fault(), place);
        is("count(10) of " + text, x.count(10), kind == 0 ? 0 : 1);
        is("count(9) of " + text, x.count(9), 0);
    }

    /** The FAULT's place is that of the last such token. */
    void at(String text, int kind, String token) {
        text(text, kind, text.lastIndexOf(token));
    }

    void good(String text) {
        text(text, 0, -1);
    }

    /** A call of which only what it is asked for varies. */
    interface Told {
        int answer(int what);
    }

    void row(String call, Told told, int... want) {
        for (int what = 0; what < want.length; what++) {
            is(call + " by " + what, told.answer(what), want[what]);
        }
    }

    void end(String name) {
        System.out.println(name + ": " + asked + " answers, " + wrong + " not as due");
        if (wrong != 0) {
            System.exit(1);
        }
    }
}
