import com.sun.management.ThreadMXBean;
import java.lang.management.ManagementFactory;

/** All calls of a run live in one room: what 512 of the dearest calls make stays small, and they end soon. */
public final class RoomTest {
    private static final int CALLS = 512;
    /** 7.3 million elements of 8 bytes are the room of a whole run; an object takes a fraction of it. */
    private static final long MOST_BYTES = 1_500_000;
    private static final String SHEET = "sheet 3 4;row 0 1 2 3 4;row 1 5 6 7 8;row 2 0 1 2 3;hand;hand habit 3;"
        + "hand habit 5;hand;may:[far<5 or last>kind] and near*2<left+habit and not cell*3=habit;odds:kind*9+near;";

    private final LastMark x;
    private int calls = 0;
    private long sum = 0;

    private RoomTest() {
        x = new LastMark();
    }

    public static void main(String[] args) {
        new RoomTest().dearest();
        ThreadMXBean bean = (ThreadMXBean) ManagementFactory.getThreadMXBean();
        long thread = Thread.currentThread().getId();
        long before = bean.getThreadAllocatedBytes(thread);
        new RoomTest().dearest();
        long made = bean.getThreadAllocatedBytes(thread) - before;
        Checks.dueTrue("bytes made by " + CALLS + " calls: " + made, made < MOST_BYTES);
        before = bean.getThreadAllocatedBytes(thread);
        new RoomTest().readings();
        made = bean.getThreadAllocatedBytes(thread) - before;
        Checks.dueTrue("bytes made by reading sheets: " + made, made < MOST_BYTES);
        Checks.finish();
    }

    private void tellSheet() {
        for (int at = 0; at < SHEET.length(); at += 20) {
            x.feed(four(at), four(at + 4), four(at + 8), four(at + 12), four(at + 16));
            calls++;
        }
        sum += x.sheet(SHEET.length());
        calls++;
    }

    private static int four(int at) {
        int bytes = 0;
        for (int i = at; i < at + 4; i++) {
            bytes = bytes << 8 | (i < SHEET.length() ? SHEET.charAt(i) : 32);
        }
        return bytes;
    }

    /** A deed ahead of each question, so that nothing that was worked out can be used again. */
    private void dearest() {
        tellSheet();
        Checks.due("lines", x.count(11), 10);
        for (int i = 0; calls < CALLS; i++) {
            x.habit(i % 4, i % 10);
            sum += ask(i);
            calls += 2;
        }
    }

    private long ask(int i) {
        int h = i % 4;
        int c = i % 12;
        switch (i % 9) {
            case 0: return x.longest(h, c);
            case 1: return x.stuck(h);
            case 2: return x.soonest(h, c);
            case 3: return x.ahead(h, c);
            case 4: return x.rows(h, c);
            case 5: return x.safest(h, 6, 0);
            case 6: return x.lasts(h, (h + 1) % 4, i % 2);
            case 7: return x.chance(h, c, 4, 1);
            default: return x.latest(h, 4);
        }
    }

    private void readings() {
        while (calls < CALLS) {
            tellSheet();
        }
        Checks.dueTrue("sheets were read", sum > 0);
    }
}
