import java.lang.management.ManagementFactory;

/** All calls of one run live in one room: an object is small, and its calls make nothing more. */
public final class RoomTest {
    private static final int MOST_BYTES_OF_AN_OBJECT = 40_000;
    // The asking itself may take some.
    private static final int MOST_BYTES_OF_CALLS = 1_000;
    private static final Due T = new Due("RoomTest");

    public static void main(String[] args) {
        calls(new SeatsToTheReluctant());
        taken();
        long before = taken();
        SeatsToTheReluctant x = new SeatsToTheReluctant();
        long made = taken();
        T.due("an object is small: " + (made - before), made - before <= MOST_BYTES_OF_AN_OBJECT ? 1 : 0, 1);
        before = taken();
        calls(x);
        long called = taken();
        T.due("calls make nothing: " + (called - before), called - before <= MOST_BYTES_OF_CALLS ? 1 : 0, 1);
        T.end();
    }

    private static long taken() {
        com.sun.management.ThreadMXBean bean = (com.sun.management.ThreadMXBean) ManagementFactory.getThreadMXBean();
        return bean.getThreadAllocatedBytes(Thread.currentThread().getId());
    }

    private static void calls(SeatsToTheReluctant x) {
        for (int round = 0; round < 10; round++) {
            String text = "person 1 2 3 4 5";
            x.row(0, 0, text.length());
            for (int i = 0; i < text.length(); i++) {
                x.set(0, i, text.charAt(i));
            }
            x.port(0);
            x.person(6, 5, 4, 3, 2);
            x.row(1, 3, 160);
            x.copy(1, 1, 0, 3, 9);
            x.element(1, 1);
            x.show(2, 0);
            x.holds(2);
            x.says(2, 1);
            x.fence(round, true);
            x.tell(0, 0, 1);
            x.ask(0, 1);
            x.squareOf(1, 1);
            x.far(1);
            x.who(0);
            x.hide(0, 30);
            x.to(0, 30);
            x.spared(0, 30);
            x.wanting(0, 30, 1);
            x.without(0, 30);
            x.fits(1, 0, 30, 0);
            x.tells(0, 0);
            x.power(0, 3);
            x.carries(3);
            x.bell(0);
            x.crowd(30, 0);
            x.judge(1, 2, 30);
            x.years(40);
            x.act(1, 2, 3);
            x.image();
            x.restore();
        }
    }
}
