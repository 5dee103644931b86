import java.lang.management.ManagementFactory;

/** Every call with every odd number, on full and empty objects: nothing is thrown, and no call makes an object. */
public final class RoomTest {
    private static final Check CHECK = new Check("RoomTest");
    private static final int[] ODD = {Integer.MIN_VALUE, -2, -1, 0, 1, 2, 3, 5, 7, 8, 15, 63, 64, 255, 256, Integer.MAX_VALUE};
    private static long sum;

    private static void askAll(FairSeats x) {
        for (int a : ODD) {
            sum += x.least(a) + x.told(a);
            for (int b : ODD) {
                sum += x.of(a, b) + x.choose(a, b) + x.owed(a, b) + x.kept(a, b) + x.nearest(a, b) + x.more(a, b);
                for (int c : ODD) {
                    sum += x.load(a, b, c) + x.purse(a, b, c) + x.breach(a, b, c) + x.turn(a, b, c);
                }
            }
        }
        sum += x.paid() + x.fault();
    }

    private static void setAll(FairSeats x) {
        for (int a : ODD) {
            sum += x.say(a) + x.hall() + x.open() + x.drop() + x.wipe();
            for (int b : ODD) {
                sum += x.heap(a, b) + x.worth(a, b);
                for (int c : ODD) {
                    sum += x.change(a, b, c);
                }
            }
            sum += x.seats(a);
        }
        for (int i = 0; i < 50; i++) {
            sum += x.say(97 + i % 3) + x.heap(255 - i, 100);
        }
    }

    public static void main(String[] args) {
        FairSeats[] all = new FairSeats[8];
        for (int i = 0; i < all.length; i++) {
            all[i] = new FairSeats();
            all[i].seats(1 + i % 4);
        }
        com.sun.management.ThreadMXBean room = (com.sun.management.ThreadMXBean) ManagementFactory.getThreadMXBean();
        long id = Thread.currentThread().getId();
        long before = room.getThreadAllocatedBytes(id);
        for (int i = 0; i < all.length; i++) {
            askAll(all[i]);
            setAll(all[i]);
            all[i].seats(1 + i % 4);
            askAll(all[i]);
        }
        long made = room.getThreadAllocatedBytes(id) - before;
        // The machine's own first-time work takes a little; a single array in one kind of call would take far more.
        CHECK.holds("calls made " + made + " bytes, fewer than 4096", made < 4096);
        CHECK.holds("the answers were used", sum != 0);
        CHECK.end();
    }
}
