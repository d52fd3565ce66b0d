import java.util.Map;
import java.util.NoSuchElementException;
import java.util.Random;
import java.util.TreeMap;

/** Random runs of calls, each call on the class and on the model: they must answer alike. */
public final class ModelTest {
    private static final int RUNS = Integer.getInteger("runs", 700);
    private static final long SEED = Long.getLong("seed", 20261118L);
    private static final int CALLS = 500;

    private static final Map<String, Integer> outcomes = new TreeMap<>();
    private static int wrong = 0;

    private interface Call {
        int answer();
    }

    private static String outcome(Call call) {
        try {
            return Integer.toString(call.answer());
        } catch (NoSuchElementException | IllegalArgumentException e) {
            return e.getClass().getName();
        }
    }

    private final PolicyRows x = new PolicyRows();
    private final Model m = new Model();
    private final Random random;
    private final Texts texts;
    private final StringBuilder told = new StringBuilder();
    private final int run;
    private int calls = 0;

    private ModelTest(int run) {
        this.run = run;
        random = new Random(SEED + run);
        texts = new Texts(random);
    }

    private void same(String call, Call ofClass, Call ofModel) {
        String got = outcome(ofClass);
        String due = outcome(ofModel);
        calls++;
        told.append(call).append(" = ").append(due).append('\n');
        boolean isNumber = !due.startsWith("java");
        String kind = isNumber && !due.equals("-1") && !due.equals("0") ? "other" : due;
        outcomes.merge(call.substring(0, call.indexOf('(')) + " " + kind, 1, Integer::sum);
        if (!got.equals(due)) {
            wrong++;
            if (wrong <= 5) {
                System.out.println("run " + run + ": " + call + " answered " + got + ", due is " + due + " after\n" + told);
            }
        }
    }

    private int near(int many) {
        return random.nextInt(25) == 0 ? random.nextInt(many + 4) - 2 : random.nextInt(Math.max(many, 1));
    }

    private void feed(String text) {
        for (int i = 0; i < text.length(); i += 20) {
            int[] five = new int[5];
            for (int j = 0; j < 20; j++) {
                int at = i + j;
                five[j / 4] = five[j / 4] << 8 | (at < text.length() ? text.charAt(at) & 255 : 32);
            }
            same("feed()", () -> x.feed(five[0], five[1], five[2], five[3], five[4]), () -> m.feed(five));
        }
    }

    private int cutOf(String text) {
        return random.nextInt(25) == 0 ? random.nextInt(730) - 10 : text.length();
    }

    /** What a call that threw left on the tape is taken off, most times. */
    private void empty() {
        if (m.tape.length() == 0 || random.nextInt(9) == 0) {
            return;
        }
        if (m.data.given.isEmpty()) {
            same("tell(0)", () -> x.tell(0), () -> m.tell(0));
        } else {
            same("query(0, -1, 0)", () -> x.query(0, -1, 0), () -> m.query(0, -1, 0));
        }
    }

    private void tell() {
        empty();
        String text = texts.text();
        feed(text);
        int n = cutOf(text);
        told.append(text).append('\n');
        same("tell(" + n + ")", () -> x.tell(n), () -> m.tell(n));
        same("fault()", x::fault, m::fault);
    }

    private void ask() {
        empty();
        String text = texts.query(m.columns, m.data.given.size());
        feed(text);
        int n = cutOf(text);
        int user = near(m.data.given.size());
        int target = m.views.isEmpty() || random.nextInt(3) == 0 ? -1 : near(m.views.size());
        told.append(text).append('\n');
        same("query(" + user + ", " + target + ", " + n + ")", () -> x.query(user, target, n), () -> m.query(user, target, n));
        same("fault()", x::fault, m::fault);
        for (int what = 0; what < 8; what++) {
            int w = what;
            same("asked(" + w + ")", () -> x.asked(w), () -> m.asked(w));
        }
        for (int i = 0; i < 9; i++) {
            int at = i;
            int w = near(6);
            same("step(" + at + ", " + w + ")", () -> x.step(at, w), () -> m.step(at, w));
        }
    }

    private void write() {
        int user = near(m.data.given.size());
        int row = near(m.data.rows.size());
        int column = near(m.columns);
        int number = random.nextInt(8) == 0 ? random.nextInt(230) - 115 : random.nextInt(19) - 9;
        switch (random.nextInt(3)) {
            case 0:
                int b = random.nextInt(10);
                int c = random.nextInt(12) == 0 ? 100 : 3;
                int d = random.nextInt(12) == 0 ? -100 : b + 1;
                same("insert(" + user + ", " + number + ", " + b + ", " + c + ", " + d + ")",
                    () -> x.insert(user, number, b, c, d), () -> m.insert(user, number, b, c, d));
                break;
            case 1:
                same("update(" + user + ", " + row + ", " + column + ", " + number + ")",
                    () -> x.update(user, row, column, number), () -> m.update(user, row, column, number));
                break;
            default:
                same("delete(" + user + ", " + row + ")", () -> x.delete(user, row), () -> m.delete(user, row));
                break;
        }
    }

    private void act() {
        int role = near(m.data.given.size());
        int other = near(m.data.given.size());
        boolean is = random.nextInt(3) != 0;
        int policy = near(m.policies.size());
        boolean on = random.nextBoolean();
        switch (random.nextInt(7)) {
            case 0:
                same("grant(" + role + ", " + other + ", " + is + ")",
                    () -> x.grant(role, other, is) ? 1 : 0, () -> m.grant(role, other, is) ? 1 : 0);
                break;
            case 1:
                same("turn(" + policy + ", " + on + ")", () -> x.turn(policy, on) ? 1 : 0, () -> m.turn(policy, on) ? 1 : 0);
                break;
            case 2:
                same("undo()", x::undo, m::undo);
                break;
            case 3:
                if (random.nextInt(6) == 0) {
                    x.image();
                    m.image();
                    told.append("image()\n");
                } else if (random.nextInt(5) == 0) {
                    same("restore()", () -> x.restore() ? 1 : 0, () -> m.restore() ? 1 : 0);
                }
                break;
            default:
                write();
                break;
        }
    }

    private void sight() {
        int user = near(m.data.given.size());
        int row = near(m.data.rows.size());
        int what = near(3);
        switch (random.nextInt(6)) {
            case 0:
            case 1:
                boolean is = random.nextInt(5) == 0
                    || user >= 0 && user < m.data.given.size() && row >= 0 && row < m.data.rows.size() && m.reads(user, row);
                same("see(" + user + ", " + row + ", " + is + ")", () -> x.see(user, row, is), () -> m.see(user, row, is));
                break;
            case 2:
                if (random.nextInt(3) == 0) {
                    x.forget();
                    m.forget();
                    told.append("forget()\n");
                }
                break;
            case 3:
                same("look(" + what + ")", () -> x.look(what), () -> m.look(what));
                break;
            default:
                same("meant(" + what + ")", () -> x.meant(what), () -> m.meant(what));
                break;
        }
    }

    private void work() {
        int user = near(m.data.given.size());
        int row = near(m.data.rows.size());
        int what = near(4);
        switch (random.nextInt(6)) {
            case 0:
                same("readers(" + row + ")", () -> x.readers(row), () -> m.readers(row));
                break;
            case 1:
                same("toSee(" + user + ", " + row + ")", () -> x.toSee(user, row), () -> m.toSee(user, row));
                break;
            case 2:
                int which = near(2);
                same("escapes(" + user + ", " + which + ")", () -> x.escapes(user, which), () -> m.escapes(user, which));
                break;
            case 3:
                same("may(" + user + ", " + row + ", " + what + ")", () -> x.may(user, row, what), () -> m.may(user, row, what));
                break;
            case 4:
                int tenths = near(11);
                same("lapses(" + user + ", " + row + ", " + tenths + ")",
                    () -> x.lapses(user, row, tenths), () -> m.lapses(user, row, tenths));
                break;
            default:
                int seed = random.nextInt();
                int n = near(61);
                int part = near(3);
                same("years(" + seed + ", " + n + ", " + part + ")",
                    () -> x.years(seed, n, part), () -> m.years(seed, n, part));
                break;
        }
    }

    private void see() {
        int what = near(13);
        int role = near(m.data.given.size());
        int row = near(m.data.rows.size());
        int column = near(m.columns);
        int policy = near(m.policies.size());
        int view = near(m.views.size());
        int detail = near(7);
        switch (random.nextInt(5)) {
            case 0:
                same("count(" + what + ")", () -> x.count(what), () -> m.count(what));
                break;
            case 1:
                same("role(" + role + ", " + detail + ")", () -> x.role(role, detail), () -> m.role(role, detail));
                break;
            case 2:
                same("cell(" + row + ", " + column + ")", () -> x.cell(row, column), () -> m.cell(row, column));
                break;
            case 3:
                same("policy(" + policy + ", " + detail + ")", () -> x.policy(policy, detail), () -> m.policy(policy, detail));
                break;
            default:
                same("view(" + view + ", " + detail + ")", () -> x.view(view, detail), () -> m.view(view, detail));
                break;
        }
    }

    private void go() {
        tell();
        for (int i = 0; i < CALLS && calls < CALLS - 60; i++) {
            int kind = random.nextInt(20);
            if (random.nextInt(60) == 0) {
                tell();
            } else if (kind == 0) {
                ask();
            } else if (kind < 8) {
                act();
            } else if (kind < 11) {
                sight();
            } else if (kind < 15) {
                work();
            } else {
                see();
            }
        }
        for (int what = 0; what < 13; what++) {
            int w = what;
            same("count(" + w + ")", () -> x.count(w), () -> m.count(w));
        }
    }

    public static void main(String[] args) {
        for (int run = 0; run < RUNS; run++) {
            new ModelTest(run).go();
        }
        if (Boolean.getBoolean("outcomes")) {
            outcomes.forEach((k, v) -> System.out.println(k + ": " + v));
        }
        System.out.println(RUNS + " runs beside the model, " + wrong + " answers unlike");
        if (wrong != 0) {
            System.exit(1);
        }
    }
}
