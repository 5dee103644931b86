/** Promises 13 to 16 at their edges. Each method stands for one sentence of the document, told above it. */
public final class WaysEdgesTest {
    private static final Check CHECK = new Check("WaysEdgesTest");
    private static final int LEAST = Integer.MIN_VALUE, MOST = Integer.MAX_VALUE;
    private static final int NONE = -6, UNKNOWN = -1;
    private static final long NO_HEAP = FairSeats.LOST - 1, NO_PLACE = FairSeats.LOST - 2;
    private static final int BY_HEADS = 0, GREEDY = 1, LOAD = 2, SHARE = 3, BEST = 4, MEND = 5;

    private static void load(String what, FairSeats x, int heap, int i, long up, long low) {
        CHECK.fraction("14 " + what, x.load(heap, i, 0), x.load(heap, i, 1), up, low);
    }

    private static void purse(String what, FairSeats x, int heap, int i, long up, long low) {
        CHECK.fraction("15 " + what, x.purse(heap, i, 0), x.purse(heap, i, 1), up, low);
    }

    private static FairSeats worths(FairSeats x, int second, int third, int fourth) {
        x.worth(1, 60);
        x.worth(2, 60);
        x.worth(3, fourth);
        x.worth(2, third);
        x.worth(1, second);
        return x;
    }

    // ---- Promise 13

    /** "UNKNOWN": there is no such WAY; i does not matter then. */
    private static void chooseByNoWay() {
        FairSeats x = Check.with(2, 3, 10);
        CHECK.dueForEach("13 the first by way", way -> x.choose(way, 0), UNKNOWN, -1, 6, 7, 256, LEAST, MOST);
        CHECK.dueForEach("13 bits by way", way -> x.choose(way, -1), UNKNOWN, -1, 6, LEAST, MOST);
        CHECK.dueForEach("13 nobody by way", way -> x.choose(way, 9), UNKNOWN, -1, 6);
        CHECK.dueForEach("13 way", way -> x.choose(way, -1), 3, 0, 1, 2, 3, 4, 5);
    }

    /** "the i-th one chosen ..; NONE": there are as many as SEATS. */
    private static void chooseOfNobody() {
        for (int seats = 1; seats <= 4; seats++) {
            FairSeats x = Check.with(seats, 240, 7, 12, 6, 3, 2);
            for (int way = 0; way < 6; way++) {
                int w = way;
                CHECK.dueForEach("13 way " + way + ", SEATS " + seats, i -> x.choose(w, i), NONE,
                    seats, seats + 1, 8, -2, -6, LEAST, MOST, 256);
                CHECK.holds("13 the last of " + seats + ", way " + way, x.choose(way, seats - 1) >= 0);
                CHECK.due("13 so many bits, way " + way, Integer.bitCount(x.choose(way, -1)), seats);
            }
        }
    }

    /** "of CANDIDATES alike the least number", with papers and without. */
    private static void chooseAmongThoseAlike() {
        for (int way = 0; way < 6; way++) {
            CHECK.order("13 all alike, way " + way, Check.with(4, 255, 1), way, 0, 1, 2, 3);
            CHECK.order("13 no HEAPS, way " + way, Check.with(4), way, 0, 1, 2, 3);
            CHECK.order("13 the last four alike, way " + way, Check.with(2, 240, 5), way, 4, 5);
            CHECK.order("13 two HEAPS alike, way " + way, Check.with(2, 128, 5, 64, 5), way, 6, 7);
            CHECK.order("13 one SEAT, way " + way, Check.with(1, 128, 5, 64, 5, 32, 4), way, 6);
        }
    }

    /** A CANDIDATE with one paper more goes ahead, whatever its number. */
    private static void chooseAmongThoseNotAlike() {
        for (int way = 0; way < 6; way++) {
            CHECK.order("13 one paper more, way " + way, Check.with(1, 64, 99, 128, 100), way, 7);
        }
    }

    /** "the HALL does not matter but for 4" */
    private static void chooseWithAHallThatBarsAll() {
        FairSeats x = Check.with(3, 3, 10, 5, 6, 24, 7, 16, 4, 36, 9);
        int[] free = new int[6];
        for (int way = 0; way < 6; way++) {
            free[way] = x.choose(way, -1);
        }
        Check.hall(x, "abcdefgh<1");
        for (int way = 0; way < 6; way++) {
            CHECK.due("13 with a HALL, way " + way, x.choose(way, -1), way == BEST ? 0 : free[way]);
        }
    }

    /** MOST: who has no papers is chosen too, if the others do not do. */
    private static void mostOfThoseWithoutPapers() {
        CHECK.order("13 MOST, one has papers", Check.with(4, 16, 1), BY_HEADS, 4, 0, 1, 2);
        CHECK.order("13 MOST, all papers", Check.with(2, 128, 100, 128, 100, 128, 100, 64, 100, 64, 100, 64, 99), BY_HEADS, 7, 6);
        FairSeats x = Check.with(2, 1, 5, 128, 6);
        x.drop();
        CHECK.order("13 MOST, papers of a HEAP that went", x, BY_HEADS, 0, 1);
    }

    /** GREEDY: if nobody makes WORTH, the least number. */
    private static void greedyWithoutWorth() {
        FairSeats x = worths(Check.with(3, 224, 100), 0, 0, 0);
        CHECK.order("13 GREEDY, one makes WORTH", x, GREEDY, 5, 0, 1);
        CHECK.order("13 BEST, one makes WORTH", x, BEST, 0, 1, 5);
        CHECK.order("13 MEND, one makes WORTH", x, MEND, 0, 1, 5);
        x.worth(0, 0);
        CHECK.order("13 GREEDY, nobody makes WORTH", x, GREEDY, 0, 1, 2);
        CHECK.order("13 BEST, nobody makes WORTH", x, BEST, 0, 1, 2);
        CHECK.order("13 MEND, nobody makes WORTH", x, MEND, 0, 1, 2);
    }

    /** "(Who has no papers comes behind all others, and weighs on nobody.)" */
    private static void loadOfThoseWithoutPapers() {
        FairSeats x = Check.with(4, 192, 1);
        CHECK.order("13 LOAD, heavy ones ahead of those without papers", x, LOAD, 6, 7, 0, 1);
        load("ahead of all", x, 0, 0, 0, 1);
        load("behind the first", x, 0, 1, 1, 1);
        load("behind the second", x, 0, 2, 2, 1);
        load("behind one without papers", x, 0, 3, 2, 1);
        load("behind two without papers", x, 0, 4, 2, 1);
    }

    /** The least load is the same for more papers that bear and for fewer that do not: alike. */
    private static void loadsAlikeOfUnlikePapers() {
        FairSeats x = Check.with(2, 5, 2, 4, 2, 1, 1, 2, 2);
        CHECK.order("13 LOAD, three papers that bear a half together", x, LOAD, 2, 0);
        load("of these", x, 0, 2, 1, 2);
        load("of others", x, 1, 2, 1, 4);
        load("of one that bore nothing", x, 2, 2, 1, 2);
        load("of nobody chosen", x, 3, 2, 0, 1);
        FairSeats y = Check.with(2, 6, 2, 4, 2, 2, 1, 1, 2);
        CHECK.order("13 LOAD, two papers that bear nothing", y, LOAD, 2, 0);
        load("of these", y, 3, 2, 1, 2);
    }

    /** "A CANDIDATE is to be had, if .. their purses together are that or more" */
    private static void sharesOfJustEnough() {
        FairSeats just = Check.with(2, 1, 5, 2, 5);
        CHECK.order("13 SHARE, just enough", just, SHARE, 0, 1);
        CHECK.due("16 just enough", just.paid(), 2);
        purse("just enough", just, 0, 1, 0, 1);
        FairSeats less = Check.with(2, 1, 4, 2, 5);
        CHECK.order("13 SHARE, one paper less", less, SHARE, 1, 0);
        CHECK.due("16 one paper less", less.paid(), 1);
        purse("one paper less", less, 0, 2, 2, 1);
        FairSeats second = Check.with(2, 3, 5, 2, 5);
        CHECK.due("13 SHARE, what is left of purses", second.choose(SHARE, 0) * 10 + second.choose(SHARE, 1), 10);
        CHECK.due("16 what is left of purses is too little", second.paid(), 1);
        FairSeats whole = Check.with(2, 3, 5);
        CHECK.due("16 what is left of purses is just enough", whole.paid(), 2);
    }

    /** "each RHO, or its whole purse, if that is less", and of CANDIDATES of one RHO the least number. */
    private static void sharesOfOneRho() {
        // c: four papers pay 3 each. d: six with one and a half each give all, and one pays 3.
        FairSeats more = Check.with(3, 11, 6, 1, 2, 12, 1, 4, 3);
        CHECK.order("13 SHARE, four payers ahead of one", more, SHARE, 0, 2, 3);
        purse("behind the first", more, 0, 1, 3, 2);
        purse("a purse that is just RHO", more, 2, 2, 0, 1);
        CHECK.due("16 four payers ahead of one", more.paid(), 2);
        // b: one pays 8/3, and four give all. d: two pay 8/3, and two give all.
        FairSeats fewer = Check.with(4, 15, 2, 9, 2, 4, 1, 7, 2, 6, 1);
        CHECK.order("13 SHARE, one payer ahead of two", fewer, SHARE, 0, 2, 1, 3);
    }

    /** "If none is to be had, those that are left go to others by MOST." They are not paid. */
    private static void sharesOfNobodyToBeHad() {
        FairSeats x = Check.with(1, 1, 5, 2, 6, 4, 6);
        CHECK.order("13 SHARE, none is to be had", x, SHARE, 1);
        CHECK.due("16 none is paid", x.paid(), 0);
        purse("none pays", x, 1, 1, 1, 1);
        FairSeats y = Check.with(4, 128, 3);
        CHECK.order("13 SHARE, one has papers", y, SHARE, 7, 0, 1, 2);
        CHECK.due("16 one has papers", y.paid(), 1);
        purse("one is paid", y, 0, 1, 3, 1);
        purse("those by MOST cost nothing", y, 0, 4, 3, 1);
    }

    /** "the LAWFUL COMMITTEE of the most WORTH, the least as bits of several" */
    private static void bestOfSeveral() {
        FairSeats x = Check.with(2, 128, 10, 64, 10, 32, 10);
        CHECK.order("13 BEST, three alike", x, BEST, 5, 6);
        Check.hall(x, "f<1");
        CHECK.order("13 BEST, one is barred", x, BEST, 6, 7);
        Check.hall(x, "fgh<2");
        CHECK.order("13 BEST, two of them are barred", x, BEST, 0, 5);
        Check.hall(x, "a>0;b>0");
        CHECK.order("13 BEST, one LAWFUL COMMITTEE without WORTH", x, BEST, 0, 1);
        Check.hall(x, "gh>1");
        CHECK.order("13 BEST, the last COMMITTEE of all", x, BEST, 6, 7);
    }

    /** "none: 0"; "(i = -1; 4: 0, if none is LAWFUL)" */
    private static void bestOfNone() {
        for (int seats = 1; seats <= 4; seats++) {
            FairSeats x = Check.with(seats, 3, 10);
            Check.hall(x, "abcdefgh>4");
            CHECK.due("13 BEST, none is LAWFUL", x.choose(BEST, -1), 0);
            CHECK.dueForEach("13 BEST, none is LAWFUL", i -> x.choose(BEST, i), NONE, 0, seats - 1, seats, -2);
        }
    }

    /** "(4, 5: by numbers)": not as they were chosen. */
    private static void byNumbers() {
        FairSeats x = Check.with(3, 128, 9, 2, 8, 32, 7);
        CHECK.order("13 GREEDY, one by one", x, GREEDY, 7, 1, 5);
        CHECK.order("13 BEST, by numbers", x, BEST, 1, 5, 7);
        CHECK.order("13 MEND, by numbers", x, MEND, 1, 5, 7);
    }

    /** "as long as that is more WORTH": a swap that makes as much is none. */
    private static void mendByNoSwap() {
        // a for b and c for d would make as much as there is.
        FairSeats x = worths(Check.with(2, 3, 10, 12, 10, 16, 5), 0, 0, 0);
        CHECK.order("13 MEND, other swaps make as much", x, MEND, 0, 2);
        CHECK.order("13 MEND, nobody has papers", Check.with(2), MEND, 0, 1);
    }

    /** "for one that is not" in it: the first CANDIDATE and the last can come, and go. */
    private static void mendByTheFirstAndTheLast() {
        // GREEDY takes c, or f, that is told with both others; the third then makes more instead.
        FairSeats first = worths(Check.with(2, 5, 7, 6, 6, 1, 5, 2, 6), 0, 0, 0);
        CHECK.order("13 GREEDY ahead", first, GREEDY, 2, 1);
        CHECK.order("13 MEND, the first comes for another", first, MEND, 0, 1);
        FairSeats last = worths(Check.with(2, 160, 7, 96, 6, 128, 5, 64, 6), 0, 0, 0);
        CHECK.order("13 GREEDY ahead", last, GREEDY, 5, 6);
        CHECK.order("13 MEND, the last comes for another", last, MEND, 6, 7);
        FairSeats ends = worths(Check.with(2, 129, 7, 65, 6, 128, 5, 64, 6), 0, 0, 0);
        CHECK.order("13 GREEDY ahead", ends, GREEDY, 0, 6);
        CHECK.order("13 MEND, the last comes for the first", ends, MEND, 6, 7);
        FairSeats back = worths(Check.with(2, 129, 7, 130, 6, 1, 5, 2, 6), 0, 0, 0);
        CHECK.order("13 GREEDY ahead", back, GREEDY, 7, 1);
        CHECK.order("13 MEND, the first comes for the last", back, MEND, 0, 1);
    }

    /** "of several the least number that goes, then that comes" */
    private static void mendOfSeveralSwaps() {
        // a for f and b for f make as much; then no swap makes more.
        FairSeats goes = worths(Check.with(3, 43, 1, 36, 1, 23, 1), 60, 0, 0);
        CHECK.due("13 GREEDY ahead", goes.choose(GREEDY, -1), 7);
        CHECK.due("13 MEND, the least number goes", goes.choose(MEND, -1), 38);
        FairSeats comes = worths(Check.with(3, 29, 1, 35, 2, 62, 3), 60, 0, 0);
        CHECK.due("13 GREEDY ahead", comes.choose(GREEDY, -1), 35);
        CHECK.due("13 MEND, the least number comes", comes.choose(MEND, -1), 37);
        // The one that goes is looked at ahead of the one that comes.
        FairSeats both = worths(Check.with(3, 26, 1, 46, 3, 57, 4, 23, 1), 60, 0, 0);
        CHECK.due("13 GREEDY ahead", both.choose(GREEDY, -1), 42);
        CHECK.due("13 MEND, who goes matters first", both.choose(MEND, -1), 50);
    }

    // ---- Promises 14 and 15

    /** "UNKNOWN .. (LOST less 1 ..)": there is no such HEAP; the others do not matter then. */
    private static void fractionsOfNoHeap() {
        int[] odd = {-1, 6, 7, 32, 256, LEAST, MOST};
        for (int heaps = 0; heaps <= 6; heaps++) {
            FairSeats x = Check.with(2);
            for (int h = 0; h < heaps; h++) {
                x.heap(1, 1);
            }
            CHECK.due("14 the HEAP behind the last of " + heaps, x.load(heaps, 0, 0), NO_HEAP);
            CHECK.due("15 the HEAP behind the last of " + heaps, x.purse(heaps, 0, 0), NO_HEAP);
            CHECK.due("14 no HEAP, no i, no part", x.load(heaps, 3, 2), NO_HEAP);
            CHECK.due("15 no HEAP, no i, no part", x.purse(heaps, -1, -1), NO_HEAP);
            CHECK.due("14 the last of " + heaps, x.load(heaps - 1, 0, 0), heaps == 0 ? NO_HEAP : 0);
            CHECK.due("15 the last of " + heaps, x.purse(heaps - 1, 0, 0), heaps == 0 ? NO_HEAP : 2);
            for (int heap : odd) {
                CHECK.due("14 the HEAP " + heap, x.load(heap, 0, 0), NO_HEAP);
                CHECK.due("15 the HEAP " + heap, x.purse(heap, 0, 0), NO_HEAP);
            }
        }
    }

    /** "OUTSIDE: i 0 to SEATS (LOST less .. 2)" */
    private static void fractionsBehindNoChoice() {
        for (int seats = 1; seats <= 4; seats++) {
            FairSeats x = Check.with(seats, 1, 1);
            int[] odd = {-1, seats + 1, -2, 256, LEAST, MOST};
            for (int i : odd) {
                CHECK.due("14 behind choice " + i + " of " + seats, x.load(0, i, 0), NO_PLACE);
                CHECK.due("15 behind choice " + i + " of " + seats, x.purse(0, i, 1), NO_PLACE);
            }
            load("ahead of all, SEATS " + seats, x, 0, 0, 0, 1);
            load("behind the last, SEATS " + seats, x, 0, seats, 1, 1);
            purse("ahead of all, SEATS " + seats, x, 0, 0, seats, 1);
            purse("behind the last, SEATS " + seats, x, 0, seats, seats - 1, 1);
        }
    }

    /** With fewer SEATS the last choice is an earlier one. */
    private static void fractionsOfFewerSeats() {
        FairSeats x = Check.with(4, 255, 2);
        load("the fourth", x, 0, 4, 2, 1);
        x.seats(3);
        CHECK.due("14 the fourth of three", x.load(0, 4, 0), NO_PLACE);
        CHECK.due("15 the fourth of three", x.purse(0, 4, 0), NO_PLACE);
        load("the third", x, 0, 3, 3, 2);
    }

    /** "by part: 0 the upper, 1 the lower number" */
    private static void fractionsOfNoPart() {
        FairSeats x = Check.with(2, 1, 1);
        int[] odd = {-1, 2, 3, 256, LEAST, MOST};
        for (int part : odd) {
            CHECK.due("14 part " + part, x.load(0, 0, part), NO_PLACE);
            CHECK.due("15 part " + part, x.purse(0, 0, part), NO_PLACE);
        }
    }

    /** "in lowest terms"; "0 by 1: nothing" */
    private static void fractionsInLowestTerms() {
        FairSeats x = Check.with(4, 15, 4, 16, 2);
        load("one by four", x, 0, 1, 1, 4);
        load("two by four", x, 0, 2, 1, 2);
        load("who bears nothing", x, 1, 1, 0, 1);
        load("behind e", x, 1, 3, 1, 2);
        load("three by four", x, 0, 4, 3, 4);
        purse("four less six by four", x, 0, 1, 5, 2);
        purse("four less twelve by four", x, 0, 2, 1, 1);
        purse("who does not pay", x, 1, 1, 4, 1);
        purse("four less three for e", x, 1, 3, 1, 1);
    }

    /** The most papers: the fractions have the greatest numbers, and are whole still. */
    private static void fractionsOfTheMostPapers() {
        int[][] papers = {{100, 100, 100, 100, 100, 100}, {100, 99, 97, 95, 91, 89}, {97, 89, 83, 79, 73, 71}, {1, 100, 99, 98, 97, 1}};
        int[][] sets = {{7, 11, 13, 14, 15, 9}, {1, 3, 7, 15, 31, 63}, {240, 15, 60, 195, 102, 153}, {85, 170, 51, 204, 15, 240}};
        for (int[] n : papers) {
            for (int[] set : sets) {
                FairSeats x = Check.with(4);
                SlowSeats y = new SlowSeats();
                y.seats(4);
                for (int h = 0; h < 6; h++) {
                    x.heap(set[h], n[h]);
                    y.heap(set[h], n[h]);
                }
                for (int h = 0; h < 6; h++) {
                    load("of the most papers", x, h, 4, y.load(h, 4, 0), y.load(h, 4, 1));
                    purse("of the most papers", x, h, 4, y.purse(h, 4, 0), y.purse(h, 4, 1));
                }
            }
        }
    }

    // ---- Promise 16

    /** "Choices of SHARE that were paid": from none to all. */
    private static void paidFromNoneToAll() {
        for (int seats = 1; seats <= 4; seats++) {
            CHECK.due("16 without HEAPS, SEATS " + seats, Check.with(seats).paid(), 0);
            CHECK.due("16 all agree, SEATS " + seats, Check.with(seats, 255, 100).paid(), seats);
            CHECK.due("16 one for all, SEATS " + seats, Check.with(seats, 8, 1).paid(), 1);
            CHECK.due("16 six apart, SEATS " + seats,
                Check.with(seats, 1, 9, 2, 9, 4, 9, 8, 9, 16, 9, 32, 9).paid(), 0);
        }
        FairSeats x = Check.with(2, 255, 1);
        x.drop();
        CHECK.due("16 the last HEAP went", x.paid(), 0);
    }

    public static void main(String[] args) {
        chooseByNoWay();
        chooseOfNobody();
        chooseAmongThoseAlike();
        chooseAmongThoseNotAlike();
        chooseWithAHallThatBarsAll();
        mostOfThoseWithoutPapers();
        greedyWithoutWorth();
        loadOfThoseWithoutPapers();
        loadsAlikeOfUnlikePapers();
        sharesOfJustEnough();
        sharesOfOneRho();
        sharesOfNobodyToBeHad();
        bestOfSeveral();
        bestOfNone();
        byNumbers();
        mendByNoSwap();
        mendByTheFirstAndTheLast();
        mendOfSeveralSwaps();
        fractionsOfNoHeap();
        fractionsBehindNoChoice();
        fractionsOfFewerSeats();
        fractionsOfNoPart();
        fractionsInLowestTerms();
        fractionsOfTheMostPapers();
        paidFromNoneToAll();
        CHECK.end();
    }
}
