import com.sun.management.ThreadMXBean;
import java.lang.management.ManagementFactory;

/** All calls live in one room: a new object takes little of it, and a call that throws nothing takes none. */
public final class RoomTest {
    private static final ThreadMXBean BEAN = (ThreadMXBean) ManagementFactory.getThreadMXBean();
    private static final Due due = new Due();
    private static final int BYTES_OF_AN_OBJECT = 32000;

    private static long taken() {
        return BEAN.getThreadAllocatedBytes(Thread.currentThread().getId());
    }

    private static void feedAll(PolicyRows x, int[] words) {
        for (int i = 0; i + 4 < words.length; i += 5) {
            x.feed(words[i], words[i + 1], words[i + 2], words[i + 3], words[i + 4]);
        }
    }

    private static int[] words(String text) {
        int[] words = new int[(text.length() + 19) / 20 * 5];
        for (int i = 0; i < words.length * 4; i++) {
            words[i / 4] = words[i / 4] << 8 | (i < text.length() ? text.charAt(i) : ' ');
        }
        return words;
    }

    private static int allCalls(PolicyRows x, int[] text, int[] query, int[] fault) {
        int sum = 0;
        feedAll(x, fault);
        sum += x.tell(20);
        feedAll(x, text);
        sum += x.tell(text.length * 4);
        feedAll(x, query);
        sum += x.query(0, 1, query.length * 4);
        feedAll(x, fault);
        sum += x.query(0, -1, 20) + x.fault();
        for (int what = 0; what < 13; what++) {
            sum += x.count(what);
        }
        for (int what = 0; what < 4; what++) {
            sum += x.role(1, what) + x.asked(what) + x.step(what, 5) + x.view(0, what) + x.policy(0, what + 3);
        }
        sum += x.cell(0, 0) + x.insert(0, 1, 1, 1, 1) + x.update(0, 0, 0, 5) + x.delete(0, 1);
        sum += (x.grant(0, 1, true) ? 1 : 0) + (x.turn(0, false) ? 1 : 0) + x.undo();
        sum += x.readers(0) + x.toSee(0, 0) + x.escapes(0, 0) + x.may(0, 0, 2) + x.see(0, 0, true);
        sum += x.meant(0) + x.meant(2) + x.look(1) + x.lapses(0, 0, 5) + x.years(7, 60, 2);
        x.image();
        sum += x.restore() ? 1 : 0;
        x.forget();
        return sum;
    }

    public static void main(String[] args) {
        int[] text = words("role;role;" + "row 1 2;".repeat(9) + "permit all any using a<9 and peek(b)<9;restrict 0 read using 1/a;"
            + "view caller where a<5;view owner 1 of 0 where b;");
        int[] query = words("a<5,peek(b),1/b");
        int[] fault = words("role 7;");
        allCalls(new PolicyRows(), text, query, fault);
        taken();
        long before = taken();
        PolicyRows x = new PolicyRows();
        long made = taken();
        int sum = 0;
        for (int i = 0; i < 5; i++) {
            sum += allCalls(x, text, query, fault);
        }
        long after = taken();
        due.is("bytes of a new object stay under " + BYTES_OF_AN_OBJECT + ": " + (made - before), made - before < BYTES_OF_AN_OBJECT, true);
        due.is("bytes that calls take (their sum " + (sum != 0) + ")", after - made, 0);
        due.end("RoomTest");
    }
}
