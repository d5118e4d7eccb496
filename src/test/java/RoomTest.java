import java.lang.management.ManagementFactory;

/** What an object makes: its rows in the constructor, and next to nothing in its calls. */
public final class RoomTest {
    private static final int CALLS = 512;
    private static final long MOST_BYTES_NEW = 64_000;
    private static final long MOST_BYTES_OF_CALLS = 4_000;
    private static final com.sun.management.ThreadMXBean THREADS =
        (com.sun.management.ThreadMXBean) ManagementFactory.getThreadMXBean();

    public static void main(String[] args) {
        Check check = new Check();
        OneCable cable = new OneCable();
        long before = made();
        cable = new OneCable();
        check.due("a new object takes too much room", made() - before <= MOST_BYTES_NEW, true);
        StringBuilder text = new StringBuilder("bay 8 8 ;");
        for (int b = 0; b < 7; b++) {
            text.append("boat ").append((char) ('a' + b)).append(" keen at ").append(b).append(" 0 hold 99 pull ")
                .append(b).append(" trust ").append(b).append(";shoal ").append(b).append(" 5 fish 9;");
        }
        text.append("swell ");
        while (text.length() < 994) {
            text.append("x+y*");
        }
        text.append("x;");
        Check.feed(cable, text.toString());
        before = made();
        check.due("bay", cable.bay(), 0);
        for (int call = 1; call < CALLS; call++) {
            ask(cable, call);
        }
        check.due("the calls take too much room", made() - before <= MOST_BYTES_OF_CALLS, true);
        check.end("RoomTest");
    }

    private static long made() {
        return THREADS.getThreadAllocatedBytes(Thread.currentThread().getId());
    }

    private static void ask(OneCable cable, int call) {
        switch (call % 14) {
            case 0: cable.soon(0, 999, -1); break;
            case 1: cable.storm(-1); break;
            case 2: cable.seasons(call, 99, 0); break;
            case 3: cable.seasons(call, 99, 1); break;
            case 4: cable.fair(6); break;
            case 5: cable.leaves(); break;
            case 6: cable.canGet(3); break;
            case 7: cable.hours(100); break;
            case 8: cable.mark(call % 4, false); break;
            case 9: cable.mark(call % 4, true); break;
            case 10: cable.order(0, call % 5); break;
            case 11: cable.feed(call, call, call); break;
            case 12: cable.chosen(true); break;
            default: cable.bay(); break;
        }
    }
}
