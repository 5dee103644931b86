/** Promises 19 to 23: KEPT, LEAST WRONGED, NEAREST, MORE, TURN. */
public final class CanBeTest {
    private static final Check CHECK = new Check("CanBeTest");

    private static void kept() {
        // Both heaps are owed one.
        FairSeats x = Check.with(2, 3, 5, 12, 5);
        int[] due = {5, 6, 9, 10};
        for (int law = 0; law < 3; law++) {
            CHECK.due("19 how many", x.kept(law, -1), 4);
            for (int i = 0; i < due.length; i++) {
                CHECK.due("19 one " + i, x.kept(law, i), due[i]);
            }
            CHECK.due("19 behind the last", x.kept(law, 4), FairSeats.NONE);
            CHECK.due("19 i -2", x.kept(law, -2), FairSeats.NONE);
            CHECK.due("19 i far", x.kept(law, Integer.MAX_VALUE), FairSeats.NONE);
        }
        CHECK.due("19 law 3", x.kept(3, -1), FairSeats.UNKNOWN);
        CHECK.due("19 law -1", x.kept(-1, -1), FairSeats.UNKNOWN);
        Check.hall(x, "a<1;c<1");
        CHECK.due("19 by a HALL", x.kept(0, -1) * 100 + x.kept(0, 0), 110);
        FairSeats y = Check.with(3, 7, 4, 11, 4, 16, 4);
        CHECK.due("19 c, d, e holds law 1", y.kept(1, -1) - y.kept(2, -1), 1);
        CHECK.due("19 all without papers", Check.with(4).kept(2, -1), 70);
        CHECK.due("19 the last of them", Check.with(4).kept(2, 69), 240);
    }

    private static void least() {
        FairSeats x = Check.with(2, 1, 20, 2, 15, 4, 10, 6, 5);
        CHECK.due("20 the COMMITTEE", x.least(0), 3);
        CHECK.due("20 WRONGED", x.least(1), 10);
        Check.hall(x, "ab<2");
        CHECK.due("20 by a HALL", x.least(0), 5);
        CHECK.due("20 WRONGED by a HALL", x.least(1), 15);
        Check.hall(x, "ab<1;c<1");
        CHECK.due("20 alike the least as bits", x.least(0), 24);
        CHECK.due("20 all are WRONGED", x.least(1), 50);
        Check.hall(x, "a<0");
        CHECK.due("20 none is LAWFUL", x.least(0), FairSeats.NONE);
        CHECK.due("20 none is LAWFUL, WRONGED", x.least(1), FairSeats.NONE);
        CHECK.due("20 what 2", x.least(2), FairSeats.OUTSIDE);
        CHECK.due("20 what -1", x.least(-1), FairSeats.OUTSIDE);
    }

    private static void nearest() {
        FairSeats x = Check.with(2, 3, 5, 12, 5);
        CHECK.due("21 itself", x.nearest(0, 10), 10);
        CHECK.due("21 one other, the least as bits", x.nearest(0, 3), 5);
        CHECK.due("21 one other", x.nearest(1, 8 + 128), 9);
        CHECK.due("21 two others", x.nearest(2, 192), 5);
        Check.hall(x, "a<1");
        CHECK.due("21 by a HALL", x.nearest(2, 192), 6);
        Check.hall(x, "ab<1");
        CHECK.due("21 none is KEPT", x.nearest(2, 192), FairSeats.NONE);
        CHECK.due("21 law 3, and outside", x.nearest(3, 1), FairSeats.UNKNOWN);
        CHECK.due("21 law -1", x.nearest(-1, 3), FairSeats.UNKNOWN);
        CHECK.due("21 committee 7", x.nearest(0, 7), FairSeats.OUTSIDE);
        CHECK.due("21 committee 768", x.nearest(0, 768), FairSeats.OUTSIDE);
        CHECK.due("21 committee -1", x.nearest(0, -1), FairSeats.OUTSIDE);
    }

    private static void more() {
        FairSeats x = Check.with(1, 3, 6, 5, 6, 2, 5, 4, 5);
        x.worth(3, 0);
        x.worth(2, 0);
        x.worth(1, 0);
        // One alone is best a; two are best b and c.
        CHECK.due("22 BEST, who comes in", x.more(4, 0), 6);
        CHECK.due("22 BEST, who goes out", x.more(4, 1), 1);
        CHECK.due("22 GREEDY, who comes in", x.more(1, 0), 2);
        CHECK.due("22 GREEDY, nobody goes out", x.more(1, 1), 0);
        CHECK.due("22 MEND, who comes in", x.more(5, 0), 6);
        CHECK.due("22 MEND, who goes out", x.more(5, 1), 1);
        CHECK.due("22 SEATS stay", x.told(2), 1);
        Check.hall(x, "abc>1");
        CHECK.due("22 none ahead", x.more(4, 0) * 10 + x.more(4, 1), 60);
        Check.hall(x, "abcd<2;efgh<1");
        CHECK.due("22 none behind", x.more(4, 0) * 10 + x.more(4, 1), 1);
        CHECK.due("22 way 6", x.more(6, 0), FairSeats.UNKNOWN);
        CHECK.due("22 way -1, and outside", x.more(-1, 7), FairSeats.UNKNOWN);
        CHECK.due("22 what 2", x.more(0, 2), FairSeats.OUTSIDE);
        CHECK.due("22 what -1", x.more(0, -1), FairSeats.OUTSIDE);
        x.seats(4);
        CHECK.due("22 four SEATS", x.more(0, 0), FairSeats.STATE);
        CHECK.due("22 four SEATS, and outside", x.more(0, 2), FairSeats.OUTSIDE);
        CHECK.due("22 four SEATS, and unknown", x.more(6, 0), FairSeats.UNKNOWN);
        x.seats(3);
        CHECK.due("22 from three to four", x.more(0, 0), 8);
    }

    private static void moreOfShare() {
        // Six papers pay one of two seats and two of three; c comes by MOST, or is paid.
        FairSeats x = Check.with(2, 3, 6, 4, 3);
        CHECK.due("22 SHARE ahead", x.choose(3, -1), 3);
        CHECK.due("22 SHARE, who comes in", x.more(3, 0), 4);
        CHECK.due("22 SHARE, nobody goes out", x.more(3, 1), 0);
    }

    private static void turn() {
        FairSeats x = Check.with(2, 3, 30, 4, 20, 8, 11);
        int[][] due = {{0, 0, 0, 0}, {0, 0, 2, 6}, {0, 0, 3, 10}, {0, 0, 7, 16}, {2, 0, 2, 0}, {2, 0, 3, 10},
            {3, 0, 2, 6}, {4, 0, 3, 10}, {5, 0, 7, 16}, {0, 2, 2, 11}, {1, 2, 7, -6}, {0, 1, 3, 20}, {0, 1, 7, -6}};
        for (int[] d : due) {
            CHECK.due("23 turn(" + d[0] + ", " + d[1] + ", " + d[2] + ")", x.turn(d[0], d[1], d[2]), d[3]);
        }
        CHECK.due("23 papers stay", x.told(20) * 1000 + x.told(0), 30003);
        CHECK.due("23 choice stays", x.choose(0, -1), 3);
        int[][] bad = {{-1, 0, 0}, {6, 0, 0}, {0, -1, 0}, {0, 3, 0}, {0, 0, -1}, {0, 0, 8}, {0, 6, 0}};
        for (int[] b : bad) {
            CHECK.due("23 turn(" + b[0] + ", " + b[1] + ", " + b[2] + ")", x.turn(b[0], b[1], b[2]), FairSeats.UNKNOWN);
        }
        Check.hall(x, "h>0");
        CHECK.due("23 BEST by a HALL", x.turn(4, 0, 7), 0);
        CHECK.due("23 BEST by a HALL, another", x.turn(4, 0, 2), 6);
        Check.hall(x, "c<1");
        CHECK.due("23 barred by a HALL", x.turn(4, 0, 2), FairSeats.NONE);
        Check.hall(x, "c<1;c>0");
        CHECK.due("23 none is LAWFUL", x.turn(4, 0, 0), FairSeats.NONE);
    }

    private static void turnOfAll() {
        CHECK.due("23 alike, and behind", Check.with(1, 1, 5, 2, 5).turn(0, 1, 2), FairSeats.NONE);
        CHECK.due("23 alike, and ahead", Check.with(1, 2, 4, 4, 5).turn(0, 1, 0), 4);
        CHECK.due("23 all papers alone do", Check.with(1, 2, 4, 4, 5).turn(0, 1, 3), 5);
        FairSeats y = Check.with(1, 4, 5);
        CHECK.due("23 one HEAP", y.turn(0, 0, 0), 3);
        CHECK.due("23 one HEAP, behind", y.turn(0, 0, 7), 3);
        FairSeats six = Check.with(2, 1, 100, 2, 100, 4, 100, 8, 100, 16, 100, 32, 100);
        for (int way = 0; way < 6; way++) {
            CHECK.due("23 six full HEAPS, way " + way, six.turn(way, 0, 7), FairSeats.NONE);
            CHECK.due("23 six full HEAPS, two, way " + way, six.turn(way, 0, 2), 1);
        }
    }

    public static void main(String[] args) {
        kept();
        least();
        nearest();
        more();
        moreOfShare();
        turn();
        turnOfAll();
        CHECK.end();
    }
}
