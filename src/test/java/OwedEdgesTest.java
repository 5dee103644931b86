/** Promises 17 and 18 at their edges. Each method stands for one sentence of the document, told above it. */
public final class OwedEdgesTest {
    private static final Check CHECK = new Check("OwedEdgesTest");
    private static final int LEAST = Integer.MIN_VALUE, MOST = Integer.MAX_VALUE;
    private static final int NONE = -6, UNKNOWN = -1, OUTSIDE = -2;

    private static void breachIs(String what, FairSeats x, int law, int committee, int l, int group) {
        String call = "18 " + what + ", law " + law;
        CHECK.due(call + ", whether", x.breach(law, committee, 0), l == NONE ? 0 : 1);
        CHECK.due(call + ", l", x.breach(law, committee, 1), l);
        CHECK.due(call + ", group", x.breach(law, committee, 2), group);
    }

    private static void breachOfEachLaw(String what, FairSeats x, int committee, int l, int group) {
        for (int law = 0; law < 3; law++) {
            breachIs(what, x, law, committee, l, group);
        }
    }

    // ---- Promise 17

    /** "OUTSIDE: l 1 to 4" */
    private static void owedSeatsFrom1To4() {
        FairSeats x = Check.with(4, 255, 1);
        CHECK.dueForEach("17 owed l", l -> x.owed(1, l), OUTSIDE, 0, 5, -1, 8, 257, LEAST, MOST);
        CHECK.dueForEach("17 owed l", l -> x.owed(1, l), 1, 1, 2, 3, 4);
    }

    /** l above SEATS is no wrong number: it is just not OWED. */
    private static void owedMoreThanSeats() {
        for (int seats = 1; seats <= 4; seats++) {
            FairSeats x = Check.with(seats, 255, 100, 255, 100);
            for (int l = 1; l <= 4; l++) {
                CHECK.due("17 owed(3, " + l + "), SEATS " + seats, x.owed(3, l), l <= seats ? 1 : 0);
            }
        }
    }

    /** "OUTSIDE: .. bits of no HEAPS, none." */
    private static void owedToNoHeaps() {
        FairSeats x = new FairSeats();
        for (int heaps = 0; heaps <= 6; heaps++) {
            int all = (1 << heaps) - 1;
            String of = "17 owed of " + heaps + " HEAPS to";
            CHECK.dueForEach(of, group -> x.owed(group, 1), OUTSIDE, 0, all + 1, all | all + 1, 1 << 6, all + 64, all + 256,
                all + LEAST, -1, LEAST, MOST);
            CHECK.due(of + " all", x.owed(all, 1), heaps == 0 ? OUTSIDE : 1);
            x.heap(7, 10);
        }
        x.drop();
        CHECK.due("17 the HEAP that went", x.owed(32, 1), OUTSIDE);
        CHECK.due("17 those that are left", x.owed(31, 1), 1);
    }

    /** "all its HEAPS tell l CANDIDATES in common, or more" */
    private static void owedToThoseInCommon() {
        for (int common = 0; common <= 4; common++) {
            int both = (1 << common) - 1 << 2;
            FairSeats x = Check.with(4, both | 1, 50, both | 2, 50);
            for (int l = 1; l <= 4; l++) {
                CHECK.due("17 " + common + " in common, l " + l, x.owed(3, l), l <= common ? 1 : 0);
            }
        }
        FairSeats three = Check.with(4, 3, 10, 5, 10, 6, 10);
        CHECK.due("17 two have one in common", three.owed(3, 1), 1);
        CHECK.due("17 three have none in common", three.owed(7, 1), 0);
    }

    /** "its papers times SEATS are l times all papers, or more" */
    private static void owedForPapers() {
        for (int seats = 1; seats <= 4; seats++) {
            for (int l = 1; l <= seats; l++) {
                // So many papers of 24 in all are just l times all papers by SEATS.
                int just = 24 * l / seats;
                if (just == 24) {
                    continue;
                }
                FairSeats x = Check.with(seats, 255, just, 255, 24 - just);
                String of = "17 l " + l + " of SEATS " + seats;
                CHECK.due(of + ", just enough", x.owed(1, l), 1);
                x.change(0, 1, just - 1);
                x.change(1, 1, 25 - just);
                CHECK.due(of + ", one paper less", x.owed(1, l), 0);
                x.change(0, 1, just + 1);
                x.change(1, 1, 23 - just);
                CHECK.due(of + ", one paper more", x.owed(1, l), 1);
            }
        }
        FairSeats all = Check.with(4, 15, 100, 15, 100, 15, 100, 15, 100, 15, 100, 15, 100);
        CHECK.due("17 the most papers", all.owed(63, 4), 1);
        CHECK.due("17 five of six HEAPS, four", all.owed(62, 4), 0);
        CHECK.due("17 five of six HEAPS, three", all.owed(62, 3), 1);
    }

    /** The HALL does not matter for what is OWED. */
    private static void owedWithAHall() {
        FairSeats x = Check.with(2, 1, 5, 2, 5);
        Check.hall(x, "a<1;b<1");
        CHECK.due("17 with a HALL", x.owed(1, 1), 1);
    }

    // ---- Promise 18

    /** "UNKNOWN": there is no such LAW; the others do not matter then. */
    private static void breachOfNoLaw() {
        FairSeats x = Check.with(2, 1, 5);
        CHECK.dueForEach("18 law", law -> x.breach(law, 3, 0), UNKNOWN, -1, 3, 4, 256, LEAST, MOST);
        CHECK.dueForEach("18 no COMMITTEE, law", law -> x.breach(law, 7, 0), UNKNOWN, -1, 3);
        CHECK.dueForEach("18 no what, law", law -> x.breach(law, 3, 3), UNKNOWN, -1, 3);
        CHECK.dueForEach("18 law", law -> x.breach(law, 6, 0), 1, 0, 1, 2);
    }

    /** "OUTSIDE": not as many as SEATS, or bits of nobody. */
    private static void breachOfNoCommittee() {
        for (int seats = 1; seats <= 4; seats++) {
            FairSeats x = Check.with(seats, 255, 5);
            int all = (1 << seats) - 1;
            CHECK.dueForEach("18 SEATS " + seats + ", COMMITTEE", c -> x.breach(2, c, 0), OUTSIDE,
                0, all >> 1, all * 2 + 1, 255, 256, all + 256, all - 1 + 256, all + LEAST, all - 1 + LEAST, -1, LEAST, MOST);
            CHECK.due("18 the first COMMITTEE of " + seats, x.breach(2, all, 0), 0);
            CHECK.due("18 the last COMMITTEE of " + seats, x.breach(2, all << 8 - seats, 0), 0);
        }
    }

    /** "whether there is a BREACH (what = 0; 1, 0), its l (1; NONE), its group (2; NONE)" */
    private static void breachOfSomethingElse() {
        FairSeats x = Check.with(2, 1, 5);
        CHECK.dueForEach("18 what", what -> x.breach(0, 3, what), OUTSIDE, -1, 3, 4, 256, LEAST, MOST);
        CHECK.dueForEach("18 what of no COMMITTEE", what -> x.breach(0, 1, what), OUTSIDE, -1, 0, 1, 2, 3);
        breachOfEachLaw("there is none", x, 3, NONE, NONE);
        breachOfEachLaw("there is one", x, 6, 1, 1);
    }

    /** Without HEAPS there is no group that could be wronged. */
    private static void breachWithoutHeaps() {
        breachOfEachLaw("without HEAPS", new FairSeats(), 3, NONE, NONE);
        FairSeats x = Check.with(2, 1, 5);
        x.drop();
        breachOfEachLaw("the last HEAP went", x, 6, NONE, NONE);
        FairSeats two = Check.with(2, 1, 5, 2, 5);
        breachOfEachLaw("the second of two", two, 5, 1, 2);
        two.drop();
        breachOfEachLaw("the second of two went", two, 5, NONE, NONE);
    }

    /** "0: no group that is OWED 1 HAS nothing each": just OWED, and one paper less. */
    private static void breachOfJustOwedOne() {
        FairSeats x = Check.with(3, 1, 10, 6, 20);
        breachOfEachLaw("just OWED one", x, 14, 1, 1);
        x.change(0, 1, 9);
        x.change(1, 1, 21);
        breachOfEachLaw("not OWED one", x, 14, NONE, NONE);
        // Two groups together are OWED one; that one of them HAS something does.
        FairSeats y = Check.with(2, 3, 5, 5, 5, 24, 10);
        breachIs("nobody of the group HAS one", y, 0, 24, 1, 3);
        breachIs("one of the group HAS one", y, 0, 12, NONE, NONE);
    }

    /** "1: .. fewer than l of the COMMITTEE are told by any of its HEAPS" */
    private static void breachOfJustSoMany() {
        // Both HEAPS together are OWED two.
        FairSeats x = Check.with(2, 7, 5, 11, 5);
        breachIs("two are told by any", x, 1, 12, NONE, NONE);
        breachIs("one is told by any", x, 1, 20, 1, 2);
        FairSeats y = Check.with(3, 7, 4, 11, 4, 48, 4);
        breachIs("one is told by any, of two", y, 1, 49, 2, 3);
        breachIs("two are told by any, of two", y, 1, 28, NONE, NONE);
        y.change(2, 1, 5);
        breachIs("two are not OWED any more", y, 1, 49, NONE, NONE);
    }

    /** "2: for no l is it such that each of its papers HAS fewer than l." */
    private static void breachOfEachPaper() {
        FairSeats y = Check.with(3, 7, 4, 11, 4, 48, 4);
        breachIs("each HAS one, of two", y, 2, 28, 2, 3);
        breachIs("one HAS two", y, 2, 19, NONE, NONE);
        breachIs("the other HAS two", y, 2, 26, NONE, NONE);
        y.change(2, 1, 5);
        breachIs("two are not OWED any more", y, 2, 28, NONE, NONE);
        FairSeats four = Check.with(4, 31, 50, 47, 50);
        breachIs("each HAS three, of four", four, 2, 54, 4, 3);
        breachIs("one HAS four", four, 2, 30, NONE, NONE);
        breachIs("four are told by any", four, 1, 54, NONE, NONE);
    }

    /** LAW 0 looks at who HAS nothing alone; its l is never more than 1. */
    private static void breachOfLaw0IsOfOne() {
        FairSeats x = Check.with(4, 15, 10);
        breachIs("one of four", x, 0, 225, NONE, NONE);
        breachIs("one of four", x, 1, 225, 2, 1);
        breachIs("one of four", x, 2, 225, 2, 1);
        breachOfEachLaw("none of four", x, 240, 1, 1);
    }

    /** "BREACH: the least l" */
    private static void breachOfTheLeastL() {
        // The first HEAP is OWED two and HAS one; the second is OWED one and HAS nothing.
        FairSeats x = Check.with(3, 3, 8, 4, 4);
        breachOfEachLaw("the second has a lesser l", x, 25, 1, 2);
        FairSeats y = Check.with(4, 7, 60, 56, 40);
        // a, b and g, h: the first is OWED two and HAS them, the second is OWED one and HAS nothing.
        breachOfEachLaw("l of the second alone", y, 195, 1, 2);
        // a, d and g, h: both HAVE one; the first alone is OWED two.
        breachIs("l of the first alone", y, 2, 201, 2, 1);
        // All four are OWED, three are there: l is 4.
        breachIs("the greatest l", Check.with(4, 15, 100), 2, 23, 4, 1);
        breachIs("the greatest l", Check.with(4, 15, 100), 1, 23, 4, 1);
    }

    /** "then the group that is least as bits" */
    private static void breachOfTheLeastGroup() {
        FairSeats x = Check.with(4, 1, 10, 2, 10, 4, 10, 8, 10);
        breachOfEachLaw("the first of four", x, 240, 1, 1);
        breachOfEachLaw("the second", x, 113, 1, 2);
        breachOfEachLaw("the third", x, 99, 1, 4);
        breachOfEachLaw("the fourth", x, 71, 1, 8);
        // Two small HEAPS together come ahead of a great one behind them.
        FairSeats two = Check.with(2, 3, 5, 5, 5, 8, 10);
        breachOfEachLaw("two are 3, one is 4", two, 48, 1, 3);
        // And behind a great one among them.
        FairSeats among = Check.with(2, 3, 5, 8, 10, 5, 5);
        breachOfEachLaw("two are 5, one is 2", among, 48, 1, 2);
        FairSeats six = Check.with(1, 129, 1, 129, 1, 129, 1, 129, 1, 129, 1, 129, 1);
        breachOfEachLaw("all six", six, 2, 1, 63);
    }

    /** LAWS are of any COMMITTEE: the HALL does not matter. */
    private static void breachWithAHall() {
        FairSeats x = Check.with(2, 1, 5, 2, 5);
        Check.hall(x, "ab<1");
        breachOfEachLaw("barred, and no BREACH", x, 3, NONE, NONE);
        breachOfEachLaw("LAWFUL, and a BREACH", x, 12, 1, 1);
    }

    public static void main(String[] args) {
        owedSeatsFrom1To4();
        owedMoreThanSeats();
        owedToNoHeaps();
        owedToThoseInCommon();
        owedForPapers();
        owedWithAHall();
        breachOfNoLaw();
        breachOfNoCommittee();
        breachOfSomethingElse();
        breachWithoutHeaps();
        breachOfJustOwedOne();
        breachOfJustSoMany();
        breachOfEachPaper();
        breachOfLaw0IsOfOne();
        breachOfTheLeastL();
        breachOfTheLeastGroup();
        breachWithAHall();
        CHECK.end();
    }
}
