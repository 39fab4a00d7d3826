import java.lang.management.ManagementFactory;

/** What 512 of the dearest calls make: far below the room of one run. */
public final class RoomTest {
    private static final Checks CHECKS = new Checks();
    /** A fiftieth of the room's 7.3 million elements, were each one byte alone. */
    private static final long ROOM = 146000;

    public static void main(String[] args) {
        StringBuilder text = new StringBuilder("town 8 6;ward a right 5;ward b down 4;ward c left 3;ward d up 2;"
                + "part a 0 0 6 0;part b 7 0 7 4;part c 1 5 7 5;part d 0 1 0 5;part a 1 1 6 4;"
                + "law joy (worth+here*5-cross)*(rich+1)/3+year+(here>1 and cross<2 or not year=3)*worth;"
                + "law push rich+size*2+here*worth+cross*5+against*7+year;");
        for (int i = 0; i < 8; i++) {
            text.append("thing ").append((char) ('a' + i)).append(" 9 ").append(i % 6 + 1).append(' ')
                    .append(1 + i / 6 * 2).append(';');
        }
        WardFalls x = Checks.town(text.toString());
        for (int i = 0; i < 24; i++) {
            x.note(i, Math.max(-1, x.rest(i)));
        }
        com.sun.management.ThreadMXBean bean = (com.sun.management.ThreadMXBean) ManagementFactory.getThreadMXBean();
        long id = Thread.currentThread().getId();
        bean.getThreadAllocatedBytes(id);
        long before = bean.getThreadAllocatedBytes(id);
        for (int i = 0; i < 32; i++) {
            round(x, i);
        }
        long made = bean.getThreadAllocatedBytes(id) - before;
        CHECKS.due("bytes made by 512 calls: " + made, made < ROOM, true);
        CHECKS.due("it did what it should", x.count(7), 24);
        CHECKS.end("RoomTest");
    }

    private static void round(WardFalls x, int i) {
        x.net(20, i % 2 == 0);
        x.stays();
        x.stay(i);
        x.treaty(1);
        x.moves(i, 0);
        x.fits();
        x.may(0);
        x.clock(0);
        x.pushed(0, 47, i);
        x.walk(0, 47);
        x.vote(0, i % 4);
        x.pour(i, 99);
        x.flood(0, i % 4);
        x.tried(0, 0, 200);
        x.keep();
        x.undo();
    }
}
