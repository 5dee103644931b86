/** Promises 19 to 23 at their edges. Each method stands for one sentence of the document, told above it. */
public final class CanBeEdgesTest {
    private static final Check CHECK = new Check("CanBeEdgesTest");
    private static final int LEAST = Integer.MIN_VALUE, MOST = Integer.MAX_VALUE;
    private static final int NONE = -6, UNKNOWN = -1, OUTSIDE = -2, STATE = -3;
    private static final int BY_HEADS = 0, GREEDY = 1, LOAD = 2, SHARE = 3, BEST = 4, MEND = 5;
    private static final String BARS_ALL = "abcdefgh>4";

    // ---- Promise 19

    /** "UNKNOWN": there is no such LAW; i does not matter then. */
    private static void keptOfNoLaw() {
        FairSeats x = Check.with(2, 3, 5);
        CHECK.dueForEach("19 how many by law", law -> x.kept(law, -1), UNKNOWN, -1, 3, 4, 256, LEAST, MOST);
        CHECK.dueForEach("19 the first by law", law -> x.kept(law, 0), UNKNOWN, -1, 3);
        CHECK.dueForEach("19 nobody by law", law -> x.kept(law, 99), UNKNOWN, -1, 3);
    }

    /** "how many (i = -1), the i-th; NONE", for all COMMITTEES that there can be. */
    private static void keptOfAll() {
        int[] due = {8, 28, 56, 70};
        for (int seats = 1; seats <= 4; seats++) {
            FairSeats x = Check.with(seats);
            int count = due[seats - 1];
            for (int law = 0; law < 3; law++) {
                int l = law;
                CHECK.due("19 how many, SEATS " + seats, x.kept(law, -1), count);
                CHECK.due("19 the first, SEATS " + seats, x.kept(law, 0), (1 << seats) - 1);
                CHECK.due("19 the last, SEATS " + seats, x.kept(law, count - 1), (1 << seats) - 1 << 8 - seats);
                CHECK.dueForEach("19 none, SEATS " + seats + ", i", i -> x.kept(l, i), NONE, count, count + 1, 256, -2, -6, LEAST, MOST);
            }
        }
    }

    /** KEPT can be none. */
    private static void keptOfNone() {
        FairSeats x = Check.with(2, 3, 5);
        Check.hall(x, BARS_ALL);
        FairSeats y = Check.with(2, 3, 5);
        Check.hall(y, "ab<1");
        for (int law = 0; law < 3; law++) {
            CHECK.due("19 none is LAWFUL", x.kept(law, -1), 0);
            CHECK.due("19 none is LAWFUL, the first", x.kept(law, 0), NONE);
            CHECK.due("19 none that is LAWFUL holds", y.kept(law, -1), 0);
            CHECK.due("19 none that is LAWFUL holds, the first", y.kept(law, 0), NONE);
        }
    }

    /** "LAWFUL COMMITTEES that hold a LAW, from the least as bits on" */
    private static void keptFromTheLeastOn() {
        for (int law = 0; law < 3; law++) {
            FairSeats x = Check.with(3, 7, 4, 11, 4, 48, 4);
            Check.hall(x, "cdh<3;g<1");
            int i = 0;
            for (int set = 7; set <= 224; set++) {
                if (Integer.bitCount(set) == 3 && x.of(set, 0) == 1 && x.breach(law, set, 0) == 0) {
                    CHECK.due("19 law " + law + ", one " + i, x.kept(law, i), set);
                    i++;
                }
            }
            CHECK.due("19 law " + law + ", how many", x.kept(law, -1), i);
            CHECK.due("19 law " + law + ", behind the last", x.kept(law, i), NONE);
            CHECK.holds("19 some are KEPT, and not all", i > 0 && i < 56);
        }
    }

    /** A HEAP that went wrongs nobody. */
    private static void keptBehindADrop() {
        FairSeats x = Check.with(1, 1, 5);
        CHECK.due("19 one is OWED a seat", x.kept(0, -1) * 10 + x.kept(0, 0), 11);
        x.drop();
        CHECK.due("19 nobody is", x.kept(0, -1), 8);
        FairSeats y = Check.with(2, 1, 5, 2, 5);
        CHECK.due("19 two are OWED a seat each", y.kept(2, -1), 1);
        y.drop();
        CHECK.due("19 one is, the other went", y.kept(2, -1), 7);
    }

    // ---- Promise 20

    /** "OUTSIDE": what is 0 or 1. */
    private static void leastOfSomethingElse() {
        FairSeats x = Check.with(2, 3, 5);
        CHECK.dueForEach("20 what", x::least, OUTSIDE, -1, 2, 3, 256, LEAST, MOST);
        Check.hall(x, BARS_ALL);
        CHECK.dueForEach("20 none is LAWFUL, what", x::least, OUTSIDE, -1, 2);
    }

    /** "NONE: none is LAWFUL." */
    private static void leastOfNone() {
        FairSeats x = Check.with(2, 3, 5);
        Check.hall(x, BARS_ALL);
        CHECK.dueForEach("20 none is LAWFUL", x::least, NONE, 0, 1);
    }

    /** "of LAWFUL ones that with the fewest WRONGED, the least as bits" */
    private static void leastOfSeveral() {
        FairSeats empty = Check.with(3);
        CHECK.due("20 without HEAPS", empty.least(0) * 1000 + empty.least(1), 7000);
        FairSeats x = Check.with(1, 64, 5, 128, 5, 32, 4);
        CHECK.due("20 two alike", x.least(0), 64);
        CHECK.due("20 two alike, WRONGED", x.least(1), 9);
        x.change(1, 1, 6);
        CHECK.due("20 one paper more", x.least(0), 128);
        CHECK.due("20 one paper more, WRONGED", x.least(1), 9);
        Check.hall(x, "h<1");
        CHECK.due("20 barred", x.least(0), 64);
        Check.hall(x, "fgh<1");
        CHECK.due("20 all are WRONGED", x.least(0) * 1000 + x.least(1), 1015);
        Check.hall(x, "h>0");
        CHECK.due("20 the only one", x.least(0), 128);
        FairSeats nobody = Check.with(2, 192, 100, 128, 100);
        CHECK.due("20 nobody is WRONGED", nobody.least(0) * 1000 + nobody.least(1), 129000);
    }

    // ---- Promise 21

    /** "UNKNOWN": there is no such LAW; the COMMITTEE does not matter then. */
    private static void nearestOfNoLaw() {
        FairSeats x = Check.with(2, 3, 5);
        CHECK.dueForEach("21 law", law -> x.nearest(law, 3), UNKNOWN, -1, 3, 4, 256, LEAST, MOST);
        CHECK.dueForEach("21 no COMMITTEE, law", law -> x.nearest(law, 7), UNKNOWN, -1, 3);
    }

    /** "OUTSIDE": not as many as SEATS, or bits of nobody. */
    private static void nearestToNoCommittee() {
        for (int seats = 1; seats <= 4; seats++) {
            FairSeats x = Check.with(seats, 255, 5);
            int all = (1 << seats) - 1;
            CHECK.dueForEach("21 SEATS " + seats + ", COMMITTEE", c -> x.nearest(0, c), OUTSIDE,
                0, all >> 1, all * 2 + 1, 255, 256, all + 256, all - 1 + 256, all + LEAST, all - 1 + LEAST, -1, LEAST, MOST);
            CHECK.due("21 the first COMMITTEE of " + seats, x.nearest(0, all), all);
            CHECK.due("21 the last COMMITTEE of " + seats, x.nearest(0, all << 8 - seats), all << 8 - seats);
            Check.hall(x, BARS_ALL);
            CHECK.due("21 none is KEPT, and no COMMITTEE", x.nearest(0, 0), OUTSIDE);
        }
    }

    /** "NEAREST; NONE." */
    private static void nearestOfNone() {
        FairSeats x = Check.with(2, 3, 5);
        Check.hall(x, BARS_ALL);
        FairSeats y = Check.with(2, 3, 5);
        Check.hall(y, "ab<1");
        for (int law = 0; law < 3; law++) {
            CHECK.due("21 none is LAWFUL", x.nearest(law, 3), NONE);
            CHECK.due("21 none that is LAWFUL holds", y.nearest(law, 12), NONE);
        }
    }

    /** "of KEPT ones that with the fewest others in it, the least as bits" */
    private static void nearestOfSeveral() {
        FairSeats x = Check.with(4);
        CHECK.due("21 no others", x.nearest(0, 240), 240);
        Check.hall(x, "h<1");
        CHECK.due("21 one other", x.nearest(0, 240), 113);
        Check.hall(x, "gh<1");
        CHECK.due("21 two others", x.nearest(0, 240), 51);
        Check.hall(x, "fgh<1");
        CHECK.due("21 three others", x.nearest(0, 240), 23);
        Check.hall(x, "efgh<1");
        CHECK.due("21 four others", x.nearest(0, 240), 15);
        // Fewer others go ahead of lesser bits: 15 has two others, 60 none.
        Check.hall(x, "cd>1");
        CHECK.due("21 itself, not the least", x.nearest(0, 60), 60);
        Check.hall(x, "abcd>1");
        CHECK.due("21 two of four", x.nearest(0, 240), 51);
    }

    /** A COMMITTEE that holds the LAW, but is barred, is not KEPT; nor one that is LAWFUL and does not. */
    private static void nearestOfThoseKept() {
        FairSeats x = Check.with(2, 3, 5, 12, 5);
        CHECK.due("21 a BREACH", x.nearest(0, 3), 5);
        Check.hall(x, "a<1");
        CHECK.due("21 barred", x.nearest(0, 5), 6);
        Check.hall(x, "d>0");
        CHECK.due("21 barred, one other", x.nearest(0, 5), 9);
        FairSeats y = Check.with(3, 7, 4, 11, 4, 48, 4);
        CHECK.due("21 holds LAW 1", y.nearest(1, 28), 28);
        CHECK.due("21 holds not LAW 2", y.nearest(2, 28), 21);
    }

    // ---- Promise 22

    /** "UNKNOWN": there is no such WAY; the others do not matter then. */
    private static void moreByNoWay() {
        FairSeats x = Check.with(2, 3, 5);
        CHECK.dueForEach("22 way", way -> x.more(way, 0), UNKNOWN, -1, 6, 7, 256, LEAST, MOST);
        CHECK.dueForEach("22 no what, way", way -> x.more(way, 2), UNKNOWN, -1, 6);
        x.seats(4);
        CHECK.dueForEach("22 four SEATS, way", way -> x.more(way, 0), UNKNOWN, -1, 6);
        CHECK.dueForEach("22 four SEATS, no what, way", way -> x.more(way, 2), UNKNOWN, -1, 6);
    }

    /** "OUTSIDE": what is 0 or 1; the number of SEATS does not matter then. */
    private static void moreOfSomethingElse() {
        FairSeats x = Check.with(2, 3, 5);
        for (int way = 0; way < 6; way++) {
            int w = way;
            x.seats(3);
            CHECK.dueForEach("22 what", what -> x.more(w, what), OUTSIDE, -1, 2, 3, 256, LEAST, MOST);
            x.seats(4);
            CHECK.dueForEach("22 four SEATS, what", what -> x.more(w, what), OUTSIDE, -1, 2);
        }
    }

    /** "STATE: there are 4 SEATS." */
    private static void moreThanFour() {
        for (int way = 0; way < 6; way++) {
            for (int seats = 1; seats <= 4; seats++) {
                FairSeats x = Check.with(seats);
                CHECK.due("22 way " + way + ", SEATS " + seats + ", in", x.more(way, 0), seats == 4 ? STATE : 1 << seats);
                CHECK.due("22 way " + way + ", SEATS " + seats + ", out", x.more(way, 1), seats == 4 ? STATE : 0);
                CHECK.due("22 SEATS stay", x.told(2), seats);
            }
        }
    }

    /** "who comes in, who goes out": more than one can, and all. */
    private static void moreForAll() {
        FairSeats x = Check.with(1, 8, 10);
        Check.hall(x, "ab<2;d<1");
        // a alone; then a and c, for a and b are barred.
        CHECK.due("22 one comes in", x.more(BEST, 0) * 1000 + x.more(BEST, 1), 4000);
        Check.hall(x, "cde>1");
        CHECK.due("22 none is LAWFUL with one SEAT", x.more(BEST, 0) * 1000 + x.more(BEST, 1), 12000);
        Check.hall(x, "abcdefgh<2");
        CHECK.due("22 none is LAWFUL with two", x.more(BEST, 0) * 1000 + x.more(BEST, 1), 8);
        Check.hall(x, BARS_ALL);
        CHECK.due("22 none is LAWFUL with either", x.more(BEST, 0) + x.more(BEST, 1), 0);
        // One alone is best a; two are best b and c.
        FairSeats y = Check.with(1, 3, 6, 5, 6, 2, 5, 4, 5);
        y.worth(3, 0);
        y.worth(2, 0);
        y.worth(1, 0);
        for (int way = BEST; way <= MEND; way++) {
            CHECK.due("22 all go out, way " + way, y.more(way, 0) * 1000 + y.more(way, 1), 6001);
        }
    }

    /** SHARE has purses of one SEAT more, too. */
    private static void moreOfPurses() {
        // With two SEATS b is paid, then a by MOST; with three, b and c are, then a.
        FairSeats x = Check.with(2, 3, 4, 2, 2, 4, 3);
        CHECK.due("22 paid of two", x.paid(), 1);
        CHECK.due("22 SHARE", x.more(SHARE, 0) * 1000 + x.more(SHARE, 1), 4000);
        CHECK.due("22 purses stay", x.purse(2, 2, 0), 2);
        x.seats(3);
        CHECK.due("22 paid of three", x.paid(), 2);
    }

    // ---- Promise 23

    /** "UNKNOWN": there is no such WAY, no such HEAP, no such CANDIDATE (0 to 7). */
    private static void turnOfNothing() {
        FairSeats x = Check.with(2, 3, 30, 4, 20);
        CHECK.dueForEach("23 way", way -> x.turn(way, 0, 0), UNKNOWN, -1, 6, 7, 256, LEAST, MOST);
        CHECK.dueForEach("23 HEAP", heap -> x.turn(0, heap, 0), UNKNOWN, -1, 2, 6, 7, 32, LEAST, MOST);
        CHECK.dueForEach("23 CANDIDATE", c -> x.turn(0, 0, c), UNKNOWN, -1, 8, 9, 32, 256, LEAST, MOST);
        CHECK.due("23 the last HEAP", x.turn(0, 1, 0), 0);
        CHECK.due("23 the last CANDIDATE", x.turn(0, 0, 7), 16);
        CHECK.due("23 the last WAY", x.turn(5, 0, 0), 0);
        FairSeats none = new FairSeats();
        for (int heap = 0; heap <= 6; heap++) {
            CHECK.due("23 no HEAPS yet, the HEAP " + heap, none.turn(0, heap, 0), UNKNOWN);
        }
        for (int h = 0; h < 6; h++) {
            none.heap(1, 1);
            CHECK.due("23 the HEAP " + h + " is there", none.turn(0, h, 0), 0);
            CHECK.due("23 the HEAP behind " + h + " is not", none.turn(0, h + 1, 0), UNKNOWN);
        }
        none.drop();
        CHECK.due("23 the HEAP that went", none.turn(0, 5, 0), UNKNOWN);
    }

    /** "0: it is chosen" */
    private static void turnOfOneThatIsChosen() {
        for (int way = 0; way < 6; way++) {
            FairSeats x = Check.with(1, 64, 100);
            CHECK.due("23 chosen, way " + way, x.turn(way, 0, 6), 0);
            x.seats(2);
            CHECK.due("23 chosen without papers, way " + way, x.turn(way, 0, 0), 0);
        }
    }

    /** "the fewest papers of a HEAP that tell one CANDIDATE alone instead" */
    private static void turnByTheFewest() {
        for (int way = 0; way < 6; way++) {
            // Of CANDIDATES alike the least number: a needs half of them, c one more.
            CHECK.due("23 half, way " + way, Check.with(1, 2, 4).turn(way, 0, 0), 2);
            CHECK.due("23 one more than half, way " + way, Check.with(1, 2, 4).turn(way, 0, 2), 3);
            CHECK.due("23 one of one, way " + way, Check.with(1, 2, 1).turn(way, 0, 7), 1);
            CHECK.due("23 one of many, way " + way, Check.with(1, 2, 50, 4, 50).turn(way, 0, 2), 1);
            CHECK.due("23 all of them, way " + way, Check.with(1, 2, 100, 4, 100).turn(way, 1, 0), 100);
            // These tell b too; it is that they tell a no more.
            CHECK.due("23 one that tells another no more, way " + way, Check.with(1, 3, 5).turn(way, 0, 1), 1);
        }
    }

    /** "NONE: all papers of the HEAP do not do." */
    private static void turnByNone() {
        for (int way = 0; way < 6; way++) {
            CHECK.due("23 one paper too few, way " + way, Check.with(1, 2, 100, 4, 99).turn(way, 1, 0), NONE);
            CHECK.due("23 alike, and a greater number, way " + way, Check.with(1, 2, 100, 4, 100).turn(way, 1, 3), NONE);
            CHECK.due("23 they tell it alone already, way " + way, Check.with(1, 2, 5, 4, 4).turn(way, 1, 2), NONE);
        }
        FairSeats x = Check.with(1, 2, 100);
        Check.hall(x, "c<1");
        CHECK.due("23 barred", x.turn(BEST, 0, 2), NONE);
        Check.hall(x, BARS_ALL);
        CHECK.due("23 none is LAWFUL", x.turn(BEST, 0, 1), NONE);
        CHECK.due("23 the HALL does not matter", x.turn(MEND, 0, 2), 51);
    }

    /** More papers can do less; the fewest count all the same. */
    private static void turnWhereMoreDoLess() {
        // c is chosen by LOAD with some of three papers, but not with all of them.
        FairSeats x = Check.with(2, 26, 3, 18, 4, 19, 4, 5, 4);
        int turn = x.turn(LOAD, 0, 2);
        CHECK.holds("23 fewer than all", turn > 0 && turn < 3);
        CHECK.due("23 not ahead", x.choose(LOAD, -1) >> 2 & 1, 0);
        CHECK.due("23 not with one fewer", chosenWith(turn - 1), 0);
        CHECK.due("23 with these", chosenWith(turn), 1);
        CHECK.due("23 not with all", chosenWith(3), 0);
    }

    private static int chosenWith(int moved) {
        FairSeats x = Check.with(2, 18, 4, 19, 4, 5, 4);
        if (moved < 3) {
            x.heap(26, 3 - moved);
        }
        if (moved > 0) {
            x.heap(4, moved);
        }
        return x.choose(LOAD, -1) >> 2 & 1;
    }

    /** "(as if they were a HEAP behind all others)": also if there are six already. */
    private static void turnOfSixHeaps() {
        FairSeats x = Check.with(2, 1, 100, 2, 100, 4, 100, 8, 100, 16, 100, 32, 100);
        for (int way = 0; way < 6; way++) {
            CHECK.due("23 six HEAPS, way " + way, x.turn(way, 5, 4), 1);
            CHECK.due("23 six HEAPS, nobody yet, way " + way, x.turn(way, 5, 7), NONE);
        }
        x.change(5, 0, 3);
        CHECK.due("23 six HEAPS, one more than half", x.turn(BY_HEADS, 5, 2), 51);
        CHECK.due("23 there are six still", x.told(0) * 1000 + x.told(1), 6600);
        // a is paid by 50 papers, and b by MOST, until 50 papers with whole purses tell c.
        FairSeats paid = Check.with(2, 3, 50, 4, 10, 4, 10, 4, 10, 4, 10, 8, 10);
        CHECK.due("23 six HEAPS, whole purses of the false ones", paid.turn(SHARE, 5, 2), 10);
        paid.change(5, 1, 9);
        paid.change(4, 1, 9);
        CHECK.due("23 six HEAPS, too little in their purses", paid.turn(SHARE, 5, 2), NONE);
    }

    /** "all else as it is": nothing is changed by a TURN. */
    private static void turnChangesNothing() {
        FairSeats x = Check.with(2, 3, 30, 4, 20, 8, 11);
        for (int way = 0; way < 6; way++) {
            x.turn(way, 0, 7);
            x.turn(way, 2, 7);
        }
        CHECK.due("23 HEAPS", x.told(0), 3);
        CHECK.due("23 papers", x.told(20) * 10000 + x.told(21) * 100 + x.told(22), 302011);
        CHECK.due("23 GREEDY", x.choose(GREEDY, -1), 5);
    }

    public static void main(String[] args) {
        keptOfNoLaw();
        keptOfAll();
        keptOfNone();
        keptFromTheLeastOn();
        keptBehindADrop();
        leastOfSomethingElse();
        leastOfNone();
        leastOfSeveral();
        nearestOfNoLaw();
        nearestToNoCommittee();
        nearestOfNone();
        nearestOfSeveral();
        nearestOfThoseKept();
        moreByNoWay();
        moreOfSomethingElse();
        moreThanFour();
        moreForAll();
        moreOfPurses();
        turnOfNothing();
        turnOfOneThatIsChosen();
        turnByTheFewest();
        turnByNone();
        turnWhereMoreDoLess();
        turnOfSixHeaps();
        turnChangesNothing();
        CHECK.end();
    }
}
