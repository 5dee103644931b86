/** Promises 17 and 18: what groups are OWED, and the BREACH of a LAW. */
public final class OwedTest {
    private static final Check CHECK = new Check("OwedTest");

    /** Two groups with two in common, and a third apart: 4 papers each, 3 SEATS. */
    private static FairSeats threeHeaps() {
        FairSeats x = new FairSeats();
        x.seats(3);
        x.heap(7, 4);
        x.heap(11, 4);
        x.heap(16, 4);
        return x;
    }

    private static void owed() {
        FairSeats x = threeHeaps();
        CHECK.due("17 one of three, for one", x.owed(1, 1), 1);
        CHECK.due("17 one of three, for two", x.owed(1, 2), 0);
        CHECK.due("17 two of three, for two", x.owed(3, 2), 1);
        CHECK.due("17 two of three, for three", x.owed(3, 3), 0);
        CHECK.due("17 nothing in common", x.owed(5, 1), 0);
        CHECK.due("17 all, nothing in common", x.owed(7, 1), 0);
        x.change(2, 1, 5);
        CHECK.due("17 not enough papers", x.owed(1, 1), 0);
        CHECK.due("17 more than enough", x.owed(4, 1), 1);
        x.change(2, 0, 3);
        CHECK.due("17 three, for two in common", x.owed(7, 2), 1);
        CHECK.due("17 three, for three", x.owed(7, 3), 0);
        CHECK.due("17 more than SEATS", x.owed(7, 4), 0);
    }

    private static void owedRefusals() {
        FairSeats x = threeHeaps();
        int[][] bad = {{0, 1}, {-1, 1}, {8, 1}, {9, 1}, {64, 1}, {1, 0}, {1, 5}, {1, -1},
            {Integer.MIN_VALUE, 1}, {Integer.MAX_VALUE, 1}};
        for (int[] b : bad) {
            CHECK.due("17 owed(" + b[0] + ", " + b[1] + ")", x.owed(b[0], b[1]), FairSeats.OUTSIDE);
        }
        CHECK.due("17 without heaps", new FairSeats().owed(1, 1), FairSeats.OUTSIDE);
        for (int h = 3; h < 6; h++) {
            x.heap(255, 1);
        }
        CHECK.due("17 all six", x.owed(63, 1), 0);
        CHECK.due("17 beyond six", x.owed(64, 1), FairSeats.OUTSIDE);
    }

    private static void breachIs(FairSeats x, int law, int committee, int l, int group) {
        String call = "18 breach(" + law + ", " + committee + ")";
        CHECK.due(call + ", whether", x.breach(law, committee, 0), l == FairSeats.NONE ? 0 : 1);
        CHECK.due(call + ", l", x.breach(law, committee, 1), l);
        CHECK.due(call + ", group", x.breach(law, committee, 2), group);
    }

    private static void breach() {
        FairSeats x = threeHeaps();
        int none = FairSeats.NONE;
        // c, d, e: each has one of it, the first two together two, but neither has two alone.
        breachIs(x, 0, 28, none, none);
        breachIs(x, 1, 28, none, none);
        breachIs(x, 2, 28, 2, 3);
        // a, e, f: one alone for two groups that are owed two.
        breachIs(x, 0, 49, none, none);
        breachIs(x, 1, 49, 2, 3);
        breachIs(x, 2, 49, 2, 3);
        // a, b, c: the third has nothing, though groups before it are owed more.
        breachIs(x, 0, 7, 1, 4);
        breachIs(x, 1, 7, 1, 4);
        breachIs(x, 2, 7, 1, 4);
        // f, g, h: nobody has anything; the least group as bits.
        breachIs(x, 0, 224, 1, 1);
        breachIs(x, 1, 224, 1, 1);
        breachIs(x, 2, 224, 1, 1);
        // a, b, e holds all.
        breachIs(x, 0, 19, none, none);
        breachIs(x, 1, 19, none, none);
        breachIs(x, 2, 19, none, none);
        // c, g, h: the second has nothing (l is 1), the first two have too little (l is 2).
        breachIs(x, 0, 196, 1, 2);
        breachIs(x, 2, 196, 1, 2);
        Check.hall(x, "a<1");
        breachIs(x, 2, 19, none, none);
        // The first group is owed two and has one; the second is owed one and has nothing: the least l goes ahead.
        FairSeats y = new FairSeats();
        y.seats(3);
        y.heap(3, 8);
        y.heap(4, 4);
        breachIs(y, 0, 25, 1, 2);
        breachIs(y, 1, 25, 1, 2);
        breachIs(y, 2, 25, 1, 2);
        breachIs(y, 1, 13, 2, 1);
        breachIs(y, 2, 13, 2, 1);
        breachIs(y, 0, 13, none, none);
    }

    private static void breachRefusals() {
        FairSeats x = threeHeaps();
        CHECK.due("18 law -1", x.breach(-1, 7, 0), FairSeats.UNKNOWN);
        CHECK.due("18 law 3, and outside", x.breach(3, 1, 9), FairSeats.UNKNOWN);
        int[] bad = {0, 3, 15, 256 + 3, -1, 1 << 31 | 3};
        for (int c : bad) {
            CHECK.due("18 committee " + c, x.breach(0, c, 0), FairSeats.OUTSIDE);
        }
        CHECK.due("18 what -1", x.breach(0, 7, -1), FairSeats.OUTSIDE);
        CHECK.due("18 what 3", x.breach(0, 7, 3), FairSeats.OUTSIDE);
        breachIs(new FairSeats(), 2, 3, FairSeats.NONE, FairSeats.NONE);
    }

    public static void main(String[] args) {
        owed();
        owedRefusals();
        breach();
        breachRefusals();
        CHECK.end();
    }
}
