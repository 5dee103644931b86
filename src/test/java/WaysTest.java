/** Promises 13 to 16: the six WAYS, loads, purses. */
public final class WaysTest {
    private static final Check CHECK = new Check("WaysTest");

    private static void wrongInputs() {
        FairSeats x = Check.with(2, 1, 1);
        CHECK.due("13 way -1", x.choose(-1, 0), FairSeats.UNKNOWN);
        CHECK.due("13 way 6", x.choose(6, -1), FairSeats.UNKNOWN);
        int[] none = {-2, 2, 4, 8, Integer.MIN_VALUE, Integer.MAX_VALUE};
        for (int way = 0; way < 6; way++) {
            for (int i : none) {
                CHECK.due("13 way " + way + ", i " + i, x.choose(way, i), FairSeats.NONE);
            }
        }
        int[][] outside = {{0, -1, 0}, {0, 3, 0}, {0, 0, -1}, {0, 0, 2}};
        for (int[] o : outside) {
            CHECK.due("14 outside", x.load(o[0], o[1], o[2]), FairSeats.LOST - 2);
            CHECK.due("15 outside", x.purse(o[0], o[1], o[2]), FairSeats.LOST - 2);
        }
        int[][] unknown = {{-1, 0, 0}, {1, 0, 0}, {6, 9, 9}, {Integer.MAX_VALUE, 0, 0}};
        for (int[] u : unknown) {
            CHECK.due("14 unknown", x.load(u[0], u[1], u[2]), FairSeats.LOST - 1);
            CHECK.due("15 unknown", x.purse(u[0], u[1], u[2]), FairSeats.LOST - 1);
        }
    }

    private static void most() {
        FairSeats x = Check.with(4, 32, 5, 33, 3, 6, 8, 64, 7);
        CHECK.order("13 MOST", x, 0, 1, 2, 5, 6);
        CHECK.order("13 MOST, without papers", Check.with(3), 0, 0, 1, 2);
        CHECK.order("13 MOST, one with papers", Check.with(3, 128, 1), 0, 7, 0, 1);
        Check.hall(x, "f<1");
        CHECK.order("13 MOST, the HALL does not matter", x, 0, 1, 2, 5, 6);
    }

    private static void greedy() {
        CHECK.order("13 GREEDY", Check.with(3, 3, 10, 4, 6, 8, 5), 1, 0, 2, 1);
        FairSeats x = Check.with(3, 3, 10, 4, 6, 8, 5);
        x.worth(1, 20);
        CHECK.order("13 GREEDY, by other WORTHS", x, 1, 0, 2, 3);
        CHECK.order("13 GREEDY, alike", Check.with(2, 192, 4, 48, 4), 1, 4, 6);
        CHECK.order("13 GREEDY, without papers", Check.with(4), 1, 0, 1, 2, 3);
    }

    private static void loads() {
        FairSeats x = Check.with(3, 3, 10, 5, 6, 24, 7, 16, 4, 36, 9);
        CHECK.order("13 LOAD", x, 2, 0, 4, 2);
        CHECK.fraction("14 ahead of all", x.load(1, 0, 0), x.load(1, 0, 1), 0, 1);
        CHECK.fraction("14 behind the first", x.load(1, 1, 0), x.load(1, 1, 1), 1, 16);
        CHECK.fraction("14 behind the third", x.load(1, 3, 0), x.load(1, 3, 1), 11, 120);
        CHECK.fraction("14 borne by new ones alike", x.load(4, 3, 0), x.load(4, 3, 1), 11, 120);
        FairSeats few = Check.with(3, 128, 2);
        CHECK.order("13 LOAD, no papers come behind", few, 2, 7, 0, 1);
        CHECK.fraction("14 no papers weigh on nobody", few.load(0, 3, 0), few.load(0, 3, 1), 1, 2);
        CHECK.order("13 LOAD, one paper", Check.with(2, 128, 1), 2, 7, 0);
        CHECK.order("13 LOAD, one paper each", Check.with(2, 128, 1, 64, 1), 2, 6, 7);
        CHECK.order("13 LOAD, without papers", Check.with(4), 2, 0, 1, 2, 3);
    }

    private static void bigLoads() {
        FairSeats x = Check.with(4, 7, 100, 11, 99, 13, 97, 14, 95, 15, 91, 9, 89);
        CHECK.order("13 LOAD, big", x, 2, 0, 3, 1, 2);
        CHECK.fraction("14 big", x.load(4, 4, 0), x.load(4, 4, 1), 2008868, 250445615);
        CHECK.fraction("14 big, behind the third", x.load(4, 3, 0), x.load(4, 3, 1), 42843, 7192955);
        CHECK.fraction("14 big, behind the second", x.load(5, 4, 0), x.load(5, 4, 1), 71, 18683);
    }

    private static void purses() {
        FairSeats x = Check.with(2, 3, 4, 5, 2, 2, 3, 64, 1);
        CHECK.order("13 SHARE", x, 3, 1, 0);
        CHECK.due("16 paid", x.paid(), 1);
        CHECK.fraction("15 ahead of all", x.purse(0, 0, 0), x.purse(0, 0, 1), 2, 1);
        CHECK.fraction("15 behind the first", x.purse(0, 1, 0), x.purse(0, 1, 1), 4, 7);
        CHECK.fraction("15 who does not pay", x.purse(1, 1, 0), x.purse(1, 1, 1), 2, 1);
        CHECK.fraction("15 by MOST it costs nothing", x.purse(1, 2, 0), x.purse(1, 2, 1), 2, 1);
        FairSeats y = Check.with(3, 3, 4, 2, 4, 4, 1);
        CHECK.order("13 SHARE, one is paid", y, 3, 1, 0, 2);
        CHECK.fraction("15 half is left", y.purse(0, 1, 0), y.purse(0, 1, 1), 15, 8);
        CHECK.due("16 one of three", y.paid(), 1);
    }

    private static void poorPurses() {
        // b is paid by 6 papers with 3/2 each; then 3 of a's papers have 3/2 and 2 have 3: RHO is 9/4.
        FairSeats x = Check.with(3, 3, 3, 2, 3, 1, 2, 4, 1);
        CHECK.order("13 SHARE, two kinds of purses", x, 3, 1, 0, 2);
        CHECK.fraction("15 what is left", x.purse(0, 1, 0), x.purse(0, 1, 1), 3, 2);
        CHECK.fraction("15 its whole purse", x.purse(0, 2, 0), x.purse(0, 2, 1), 0, 1);
        CHECK.fraction("15 RHO", x.purse(2, 2, 0), x.purse(2, 2, 1), 3, 4);
        CHECK.due("16 two of three", x.paid(), 2);
        CHECK.order("13 SHARE, all as much as the cost", Check.with(2, 1, 1, 2, 1), 3, 0, 1);
        CHECK.due("16 as much as the cost", Check.with(2, 1, 1, 2, 1).paid(), 2);
        CHECK.order("13 SHARE, without papers", Check.with(3), 3, 0, 1, 2);
        CHECK.due("16 without papers", Check.with(3).paid(), 0);
    }

    private static void best() {
        FairSeats x = Check.with(2, 3, 10, 4, 8);
        CHECK.order("13 BEST", x, 4, 0, 2);
        Check.hall(x, "a<1;h>0");
        CHECK.order("13 BEST, by a HALL", x, 4, 1, 7);
        Check.hall(x, "a<1;a>0");
        CHECK.due("13 BEST, none is LAWFUL", x.choose(4, -1), 0);
        CHECK.due("13 BEST, none is LAWFUL, the first", x.choose(4, 0), FairSeats.NONE);
        CHECK.order("13 BEST, alike the least as bits", Check.with(2), 4, 0, 1);
        // GREEDY takes a first; the two beside it are worth more together.
        FairSeats y = Check.with(2, 3, 6, 5, 6, 2, 5, 4, 5);
        y.worth(3, 0);
        y.worth(2, 0);
        y.worth(1, 0);
        CHECK.order("13 GREEDY is not the best", y, 1, 0, 1);
        CHECK.order("13 BEST is", y, 4, 1, 2);
        CHECK.order("13 MEND finds it by a swap", y, 5, 1, 2);
    }

    private static void mend() {
        FairSeats x = Check.with(2, 3, 10, 4, 8);
        Check.hall(x, "a<1");
        CHECK.order("13 MEND, the HALL does not matter", x, 5, 0, 2);
        CHECK.order("13 MEND, by numbers", Check.with(3, 192, 10, 4, 6), 5, 2, 6, 7);
        CHECK.order("13 GREEDY, one by one", Check.with(3, 192, 10, 4, 6), 1, 6, 2, 7);
        // Once b is there, a is worth more than c.
        FairSeats y = Check.with(2, 5, 7, 6, 6, 1, 5, 2, 6);
        y.worth(3, 0);
        y.worth(2, 0);
        y.worth(1, 0);
        CHECK.order("13 GREEDY ahead of swaps", y, 1, 2, 1);
        CHECK.order("13 MEND, the first one comes in", y, 5, 0, 1);
        CHECK.order("13 MEND, without papers", Check.with(4), 5, 0, 1, 2, 3);
    }

    public static void main(String[] args) {
        wrongInputs();
        most();
        greedy();
        loads();
        bigLoads();
        purses();
        poorPurses();
        best();
        mend();
        CHECK.end();
    }
}
