import java.util.NoSuchElementException;

/** What tests share: calls whose answers are due, texts fed to the tape, and how it ends. */
final class Due {
    private int wrong = 0;
    private int asked = 0;

    interface Call {
        long answer();
    }

    void is(String call, long got, long want) {
        asked++;
        if (got != want) {
            wrong++;
            System.out.println(call + " answered " + got + ", due is " + want);
        }
    }

    void is(String call, boolean got, boolean want) {
        is(call, got ? 1 : 0, want ? 1 : 0);
    }

    /** It must throw that very class. */
    void fails(String call, Class<? extends RuntimeException> want, Call tried) {
        asked++;
        try {
            wrong++;
            System.out.println(call + " answered " + tried.answer() + ", due is " + want.getName());
        } catch (RuntimeException e) {
            if (e.getClass() == want) {
                wrong--;
            } else {
                System.out.println(call + " threw " + e + ", due is " + want.getName());
            }
        }
    }

    void none(String call, Call tried) {
        fails(call, NoSuchElementException.class, tried);
    }

    void unfit(String call, Call tried) {
        fails(call, IllegalArgumentException.class, tried);
    }

    static void feed(PolicyRows x, String text) {
        for (int i = 0; i < text.length(); i += 20) {
            int[] five = new int[5];
            for (int j = 0; j < 20; j++) {
                int sign = i + j < text.length() ? text.charAt(i + j) & 255 : ' ';
                five[j / 4] = five[j / 4] << 8 | sign;
            }
            x.feed(five[0], five[1], five[2], five[3], five[4]);
        }
    }

    static int tell(PolicyRows x, String text) {
        feed(x, text);
        return x.tell(text.length());
    }

    static int query(PolicyRows x, int user, int target, String text) {
        feed(x, text);
        return x.query(user, target, text.length());
    }

    /** A new object that was told a text without a fault. */
    PolicyRows told(String text) {
        PolicyRows x = new PolicyRows();
        is("tell of " + text, tell(x, text), 0);
        return x;
    }

    void end(String name) {
        System.out.println(name + ": " + asked + " answers, " + wrong + " not as due");
        if (wrong != 0) {
            System.exit(1);
        }
    }
}
