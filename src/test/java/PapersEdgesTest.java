/**
 * Promises 1 to 12 and 24 at their edges. Each method stands for one sentence of the document, told above it;
 * that refused calls change nothing is looked at in RefusedTest too, with all that an object answers.
 */
public final class PapersEdgesTest {
    private static final Check CHECK = new Check("PapersEdgesTest");
    private static final int LEAST = Integer.MIN_VALUE, MOST = Integer.MAX_VALUE;
    private static final int NONE = -6, UNKNOWN = -1, OUTSIDE = -2, FULL = -4, NO = -5;
    private static final String TEN_LINES = "a<1;b<1;c<1;d<1;e<1;f<1;g<1;h<1;a>0;b>0";
    private static final String FORTY_SIGNS = "abcdefgh<4;abcdefgh<4;abcdefgh<4;abcde<4";

    private static FairSeats sixHeaps() {
        return Check.with(2, 1, 10, 2, 20, 4, 30, 8, 40, 16, 50, 32, 60);
    }

    private static FairSeats saying(String text) {
        FairSeats x = new FairSeats();
        Check.say(x, text);
        return x;
    }

    // ---- Promise 1

    /** "No HEAPS, no HALL; 2 SEATS." And of the signs: "none at first". */
    private static void aNewObjectIsEmpty() {
        FairSeats x = new FairSeats();
        CHECK.dueForEach("1 told", x::told, 0, 0, 1, 3, 4);
        CHECK.dueForEach("1 told", x::told, NONE, 20, 21, 22, 23, 24, 25, 30, 31, 32, 33, 34, 35);
        CHECK.due("1 told(2)", x.told(2), 2);
        CHECK.due("1 a COMMITTEE of two", x.of(192, 0), 1);
        CHECK.due("1 the first LINE that is not so", x.of(192, 3), NONE);
        CHECK.due("1 drop()", x.drop(), NO);
        CHECK.due("1 open()", x.open(), 0);
        CHECK.due("1 wipe()", x.wipe(), 0);
    }

    /** "60, 30, 20, 15 at first" */
    private static void aNewObjectHasTheFirstWorths() {
        FairSeats x = new FairSeats();
        int[] due = {60, 30, 20, 15};
        for (int i = 0; i < 4; i++) {
            CHECK.due("1 told(" + (10 + i) + ")", x.told(10 + i), due[i]);
        }
    }

    /** A new object has nothing of one that was made ahead of it, nor that of the new one. */
    private static void objectsShareNothing() {
        FairSeats x = Check.with(4, 3, 5);
        x.worth(0, 59);
        Check.hall(x, "a>0");
        Check.say(x, "b");
        FairSeats y = new FairSeats();
        int[] what = {0, 1, 2, 3, 4, 10, 20, 30};
        int[] dueNew = {0, 0, 2, 0, 0, 60, NONE, NONE};
        int[] dueOld = {1, 5, 4, 1, 1, 59, 5, 3};
        for (int i = 0; i < what.length; i++) {
            CHECK.due("1 of the new one told(" + what[i] + ")", y.told(what[i]), dueNew[i]);
        }
        y.heap(255, 100);
        y.seats(1);
        Check.hall(y, "h>0;h>1");
        y.worth(0, 31);
        for (int i = 0; i < what.length; i++) {
            CHECK.due("1 of the old one told(" + what[i] + ")", x.told(what[i]), dueOld[i]);
        }
    }

    // ---- Promise 2

    /** "a set of CANDIDATES (bits, 1 to 255)" */
    private static void setsOfHeaps() {
        FairSeats x = new FairSeats();
        CHECK.dueForEach("2 heap with the set", set -> x.heap(set, 1), OUTSIDE, 0, 256, -1, 257, 511, LEAST, MOST, LEAST + 1);
        CHECK.due("2 refused sets make no HEAP", x.told(0), 0);
        CHECK.due("2 heap(1, 1)", x.heap(1, 1), 0);
        CHECK.due("2 heap(255, 1)", x.heap(255, 1), 1);
        CHECK.due("2 the set 1", x.told(30), 1);
        CHECK.due("2 the set 255", x.told(31), 255);
    }

    /** "how many papers (1 to 100)" */
    private static void papersOfHeaps() {
        FairSeats x = new FairSeats();
        CHECK.dueForEach("2 heap with papers", papers -> x.heap(1, papers), OUTSIDE, 0, 101, -1, 256, 357, LEAST, MOST);
        CHECK.due("2 refused papers make no HEAP", x.told(0) + x.told(1), 0);
        CHECK.due("2 heap(1, 1)", x.heap(1, 1), 0);
        CHECK.due("2 heap(1, 100)", x.heap(1, 100), 1);
        CHECK.due("2 one paper", x.told(20), 1);
        CHECK.due("2 a hundred papers", x.told(21), 100);
    }

    /** "HEAPS, 6 at most, numbered from 0 on"; "A HEAP: its number." "FULL" */
    private static void sixHeapsAtMost() {
        FairSeats x = new FairSeats();
        for (int h = 0; h < 6; h++) {
            CHECK.due("2 the number of a HEAP", x.heap(7, 100), h);
        }
        CHECK.due("2 a seventh", x.heap(9, 1), FULL);
        CHECK.due("2 an eighth", x.heap(9, 1), FULL);
        CHECK.due("2 there are six", x.told(0), 6);
        CHECK.due("2 all papers", x.told(1), 600);
        CHECK.due("2 the last one's set stays", x.told(35), 7);
        x.drop();
        CHECK.due("2 there is room again", x.heap(9, 1), 5);
        CHECK.due("2 and no more", x.heap(9, 1), FULL);
    }

    /** "the first of these that fits: .. OUTSIDE -2 .., FULL -4" */
    private static void heapIsOutsideAheadOfFull() {
        FairSeats x = sixHeaps();
        CHECK.dueForEach("2 full, and the set", set -> x.heap(set, 1), OUTSIDE, 0, 256);
        CHECK.dueForEach("2 full, and papers", papers -> x.heap(1, papers), OUTSIDE, 0, 101);
    }

    // ---- Promise 3

    /** "UNKNOWN": there is no such HEAP. */
    private static void changeOfNoHeap() {
        FairSeats x = new FairSeats();
        for (int h = 0; h <= 6; h++) {
            CHECK.due("3 not there yet", x.change(h, 0, 1), UNKNOWN);
            CHECK.due("3 not there yet, papers", x.change(h, 1, 1), UNKNOWN);
            CHECK.dueForEach("3 change", heap -> x.change(heap, 0, 1), UNKNOWN, -1, 6, 7, 32, LEAST, MOST);
            if (h < 6) {
                CHECK.due("3 heap", x.heap(2, 5), h);
                CHECK.due("3 the last one that is there", x.change(h, 0, 3), 2);
            }
        }
        x.drop();
        CHECK.due("3 the one that went", x.change(5, 0, 1), UNKNOWN);
        CHECK.due("3 the one ahead of it", x.change(4, 0, 1), 3);
    }

    /** "Papers of a HEAP (what = 1), its set (0)"; "OUTSIDE" */
    private static void changeOfSomethingElse() {
        FairSeats x = Check.with(2, 3, 10);
        CHECK.dueForEach("3 change what", what -> x.change(0, what, 1), OUTSIDE, -1, 2, 256, LEAST, MOST);
        CHECK.due("3 the set stays", x.told(30), 3);
        CHECK.due("3 papers stay", x.told(20), 10);
    }

    /** A set is 1 to 255 here too; it is not papers, which end at 100. */
    private static void changeOfSets() {
        FairSeats x = Check.with(2, 3, 10);
        CHECK.dueForEach("3 the set", v -> x.change(0, 0, v), OUTSIDE, 0, 256, -1, 257, LEAST, MOST);
        CHECK.due("3 the set is as it was", x.change(0, 0, 1), 3);
        CHECK.due("3 the last one", x.change(0, 0, 255), 1);
        CHECK.due("3 told(30)", x.told(30), 255);
        CHECK.due("3 papers stay", x.told(20), 10);
    }

    /** Papers are 1 to 100 here too; they are not a set, which ends at 255. */
    private static void changeOfPapers() {
        FairSeats x = Check.with(2, 3, 10);
        CHECK.dueForEach("3 papers", v -> x.change(0, 1, v), OUTSIDE, 0, 101, 255, -1, 257, LEAST, MOST);
        CHECK.due("3 papers are as they were", x.change(0, 1, 1), 10);
        CHECK.due("3 the most", x.change(0, 1, 100), 1);
        CHECK.due("3 told(20)", x.told(20), 100);
        CHECK.due("3 the set stays", x.told(30), 3);
    }

    /** The other HEAPS stay, on either side. */
    private static void changeOfOneHeapAlone() {
        FairSeats x = sixHeaps();
        for (int h = 0; h < 6; h++) {
            CHECK.due("3 set of " + h, x.change(h, 0, 200 + h), 1 << h);
            CHECK.due("3 papers of " + h, x.change(h, 1, 70 + h), 10 * h + 10);
        }
        for (int h = 0; h < 6; h++) {
            CHECK.due("3 set of " + h + " then", x.told(30 + h), 200 + h);
            CHECK.due("3 papers of " + h + " then", x.told(20 + h), 70 + h);
        }
        CHECK.due("3 there are six still", x.told(0), 6);
    }

    /** "the first of these that fits: UNKNOWN -1 .., OUTSIDE -2" */
    private static void changeIsUnknownAheadOfOutside() {
        FairSeats x = Check.with(2, 3, 10);
        CHECK.due("3 no HEAP, and what", x.change(1, 2, 1), UNKNOWN);
        CHECK.due("3 no HEAP, and a set", x.change(1, 0, 0), UNKNOWN);
        CHECK.due("3 no HEAP, and papers", x.change(-1, 1, 101), UNKNOWN);
    }

    // ---- Promise 4

    /** "The last HEAP goes: how many are left. NO: there is none." */
    private static void dropToTheLast() {
        FairSeats x = sixHeaps();
        for (int left = 5; left >= 0; left--) {
            CHECK.due("4 drop()", x.drop(), left);
            CHECK.due("4 told(0)", x.told(0), left);
            CHECK.due("4 the last went", x.told(20 + left), NONE);
            CHECK.due("4 its set went", x.told(30 + left), NONE);
            CHECK.due("4 the first stays", x.told(20), left == 0 ? NONE : 10);
            CHECK.due("4 papers that are left", x.told(1), 5 * left * (left + 1));
            CHECK.due("4 WRONGED that are left", x.of(192, 2), 5 * left * (left + 1));
        }
        CHECK.due("4 no WORTH is left", x.of(3, 1), 0);
        CHECK.due("4 there is none", x.drop(), NO);
        CHECK.due("4 there is none still", x.drop(), NO);
        CHECK.due("4 none, and not fewer", x.told(0), 0);
        CHECK.due("4 the next one is the first", x.heap(5, 6), 0);
        CHECK.due("4 its papers", x.told(1), 6);
    }

    // ---- Promise 5

    /** "SEATS: 1 to 4 (2 at first)"; "how many there were" */
    private static void seatsFrom1To4() {
        FairSeats x = new FairSeats();
        CHECK.dueForEach("5 seats", x::seats, OUTSIDE, 0, 5, -1, 8, 257, LEAST, MOST);
        CHECK.due("5 refused SEATS change nothing", x.told(2), 2);
        CHECK.due("5 seats(1)", x.seats(1), 2);
        CHECK.due("5 seats(1) again", x.seats(1), 1);
        CHECK.due("5 seats(4)", x.seats(4), 1);
        CHECK.due("5 seats(3)", x.seats(3), 4);
        CHECK.due("5 told(2)", x.told(2), 3);
    }

    // ---- Promise 6

    /** "WORTH of the i-th one (0 to 3)" */
    private static void worthOfTheFirstToTheFourth() {
        FairSeats x = new FairSeats();
        CHECK.dueForEach("6 worth", i -> x.worth(i, 15), OUTSIDE, -1, 4, 5, 256, LEAST, MOST);
        CHECK.dueForEach("6 worth of nothing", i -> x.worth(i, 0), OUTSIDE, -1, 4);
        CHECK.due("6 the first", x.worth(0, 50), 60);
        CHECK.due("6 the fourth", x.worth(3, 10), 15);
    }

    /** "0 to 60 each" */
    private static void worthFrom0To60() {
        FairSeats x = new FairSeats();
        CHECK.dueForEach("6 worth(0, v)", v -> x.worth(0, v), OUTSIDE, 61, -1, LEAST, MOST);
        CHECK.dueForEach("6 worth(3, v)", v -> x.worth(3, v), OUTSIDE, -1, 61, LEAST, MOST);
        int[] first = {60, 30, 20, 15};
        for (int i = 3; i >= 0; i--) {
            CHECK.due("6 all go down to 0", x.worth(i, 0), first[i]);
        }
        CHECK.due("6 none goes below", x.worth(0, -1), OUTSIDE);
        for (int i = 0; i < 4; i++) {
            CHECK.due("6 all go up to 60", x.worth(i, 60), 0);
            CHECK.due("6 none goes above", x.worth(i, 61), OUTSIDE);
        }
        CHECK.dueForEach("6 told", x::told, 60, 10, 11, 12, 13);
    }

    /** "none above the one ahead"; "OUTSIDE: also above the one ahead, below the one behind." */
    private static void worthBetweenItsNeighbours() {
        int[] ahead = {60, 50, 30, 20};
        int[] behind = {30, 20, 15, 0};
        int[] first = {50, 30, 20, 15};
        for (int i = 0; i < 4; i++) {
            FairSeats x = new FairSeats();
            x.worth(0, 50);
            CHECK.due("6 above the one ahead, " + i, x.worth(i, ahead[i] + 1), OUTSIDE);
            CHECK.due("6 below the one behind, " + i, x.worth(i, behind[i] - 1), OUTSIDE);
            CHECK.due("6 refused worths change nothing, " + i, x.told(10 + i), first[i]);
            CHECK.due("6 as much as the one ahead, " + i, x.worth(i, ahead[i]), first[i]);
            CHECK.due("6 as little as the one behind, " + i, x.worth(i, behind[i]), ahead[i]);
            CHECK.due("6 told, " + i, x.told(10 + i), behind[i]);
        }
    }

    // ---- Promise 7

    /** "codes 33 to 126" */
    private static void signsFrom33To126() {
        FairSeats x = new FairSeats();
        CHECK.dueForEach("7 say", x::say, OUTSIDE, 32, 127, 0, -1, -33, 256 + 97, 65536 + 97, LEAST, MOST);
        CHECK.due("7 refused signs are none", x.told(3), 0);
        CHECK.due("7 say(33)", x.say(33), 1);
        CHECK.due("7 say(126)", x.say(126), 2);
    }

    /** "a text of up to 40 signs"; "A sign more: how many." "FULL" */
    private static void fortySignsAtMost() {
        FairSeats x = new FairSeats();
        for (int i = 0; i < 40; i++) {
            CHECK.due("7 a sign more", x.say(FORTY_SIGNS.charAt(i)), i + 1);
        }
        CHECK.due("7 one more", x.say('!'), FULL);
        CHECK.due("7 still 40", x.told(3), 40);
        CHECK.due("7 as they were", x.fault(), NONE);
        x.wipe();
        CHECK.due("7 there is room again", x.say('a'), 1);
    }

    /** "the first of these that fits: .. OUTSIDE -2 .., FULL -4" */
    private static void sayIsOutsideAheadOfFull() {
        FairSeats x = saying(FORTY_SIGNS);
        CHECK.dueForEach("7 full, and the sign", x::say, OUTSIDE, 32, 127);
    }

    // ---- Promise 8

    /** "Signs go: how many there were." */
    private static void wipeOfNoneAndOfAll() {
        FairSeats x = new FairSeats();
        CHECK.due("8 none", x.wipe(), 0);
        x.say('!');
        CHECK.due("8 one", x.wipe(), 1);
        CHECK.due("8 it is gone", x.wipe(), 0);
        Check.say(x, FORTY_SIGNS);
        CHECK.due("8 all", x.wipe(), 40);
        CHECK.due("8 nothing of them is left", x.fault(), 0);
    }

    /** The HALL stays when signs go. */
    private static void wipeLeavesTheHall() {
        FairSeats x = new FairSeats();
        Check.hall(x, "a>0");
        Check.say(x, "b<1");
        x.wipe();
        CHECK.due("8 the HALL stays", x.told(4) * 10 + x.of(6, 0), 10);
    }

    // ---- Promise 9

    private static void signsThatGoOn(String begin, String allowed, String ends) {
        for (char sign = 33; sign <= 126; sign++) {
            int due = begin.length();
            if (allowed.indexOf(sign) >= 0) {
                due = ends.indexOf(sign) >= 0 ? NONE : begin.length() + 1;
            }
            CHECK.due("9 fault of " + begin + sign, saying(begin + sign).fault(), due);
        }
    }

    /** "one or more letters a to h": each sign that can be the first of a LINE, and each that can't. */
    private static void faultWhereALineBegins() {
        signsThatGoOn("", "abcdefgh", "");
        signsThatGoOn("a<1;", "abcdefgh", "");
        signsThatGoOn("h>4;h>4;", "abcdefgh", "");
    }

    /** "letters a to h, rising, then < or >" */
    private static void faultBehindALetter() {
        String letters = "abcdefgh";
        for (int i = 0; i < 8; i++) {
            signsThatGoOn(letters.substring(i, i + 1), letters.substring(i + 1) + "<>", "");
        }
        signsThatGoOn("abf", "gh<>", "");
        signsThatGoOn("abcdefgh", "<>", "");
        signsThatGoOn("b<1;a", "bcdefgh<>", "");
    }

    /** "then a digit 0 to 4" */
    private static void faultWhereADigitIsDue() {
        signsThatGoOn("a<", "01234", "01234");
        signsThatGoOn("a>", "01234", "01234");
        signsThatGoOn("a>0;bh<", "01234", "01234");
    }

    /** "one or more LINES with a ; between two" */
    private static void faultBehindALine() {
        signsThatGoOn("a<0", ";", "");
        signsThatGoOn("a<0;h>4", ";", "");
    }

    /** "behind the last sign: their number" */
    private static void faultBehindTheLastSign() {
        String whole = "abh<4;c>0";
        for (int length = 0; length <= whole.length(); length++) {
            int due = length == 5 || length == 9 ? NONE : length;
            CHECK.due("9 fault of " + length + " signs", saying(whole.substring(0, length)).fault(), due);
        }
    }

    /** "the first place": what stands behind it does not matter. */
    private static void faultIsTheFirst() {
        CHECK.due("9 two of them", saying("a<9;b<9").fault(), 2);
        CHECK.due("9 a right LINE behind it", saying("a<1!a<1").fault(), 3);
        CHECK.due("9 at the first place", saying("!!").fault(), 0);
        CHECK.due("9 at the last of 40", saying(FORTY_SIGNS.substring(0, 39) + "5").fault(), 39);
    }

    /** A text of 40 signs can be whole, or not. */
    private static void faultOfFortySigns() {
        CHECK.due("9 whole", saying(FORTY_SIGNS).fault(), NONE);
        CHECK.due("9 not whole", saying(FORTY_SIGNS.substring(0, 37) + "fgh").fault(), 40);
        CHECK.due("9 39 of them", saying(FORTY_SIGNS.substring(0, 39)).fault(), 39);
    }

    /** To ask for the FAULT changes nothing. */
    private static void faultLeavesTheSigns() {
        FairSeats x = saying("a<");
        CHECK.due("9 fault", x.fault(), 2);
        CHECK.due("9 again", x.fault(), 2);
        CHECK.due("9 the next sign comes behind them", x.say('1') * 100 + x.fault(), 300 + NONE);
    }

    // ---- Promise 10

    /** "NO: there is a FAULT." The signs stay, and so does the HALL ahead. */
    private static void hallWithAFault() {
        String[] texts = {"", "a", "a<", "a<5", "a<1;", ";a<1", "ba<1", "aa<1", "<1", "a<1b<1", FORTY_SIGNS.substring(0, 39)};
        for (String text : texts) {
            FairSeats x = new FairSeats();
            Check.hall(x, "h>0;gh>0");
            Check.say(x, text);
            CHECK.due("10 hall of " + text, x.hall(), NO);
            CHECK.due("10 signs of " + text, x.told(3), text.length());
            CHECK.due("10 the HALL ahead of " + text, x.told(4), 2);
            CHECK.due("10 its LINES ahead of " + text, x.of(129, 0) * 10 + x.of(3, 0), 10);
        }
    }

    /** "A HALL .. one or more LINES": no signs are none. */
    private static void hallOfNothing() {
        FairSeats x = new FairSeats();
        CHECK.due("10 no signs", x.hall(), NO);
        CHECK.due("10 no LINES", x.told(4), 0);
        CHECK.due("10 no HALL", x.open(), 0);
    }

    /** "The HALL is the text (the signs are empty then): 1." */
    private static void hallTakesTheSigns() {
        FairSeats x = saying("a>0");
        CHECK.due("10 hall", x.hall(), 1);
        CHECK.due("10 no signs then", x.told(3), 0);
        CHECK.due("10 no text then", x.fault(), 0);
        CHECK.due("10 hall again", x.hall(), NO);
        CHECK.due("10 one LINE", x.told(4), 1);
        CHECK.due("10 a sign is the first", x.say('b'), 1);
    }

    /** The most LINES and the most signs that a HALL can have. */
    private static void hallOfTheMost() {
        FairSeats x = new FairSeats();
        CHECK.due("10 ten LINES", Check.hall(x, TEN_LINES), 1);
        CHECK.due("10 told(4)", x.told(4), 10);
        CHECK.due("10 the last of ten", Check.hall(x, "a<4;a<4;a<4;a<4;a<4;a<4;a<4;a<4;a<4;h>0"), 1);
        CHECK.due("10 is looked at", x.of(3, 3), 9);
        CHECK.due("10 forty signs", Check.hall(x, FORTY_SIGNS), 1);
        CHECK.due("10 four LINES", x.told(4), 4);
        CHECK.due("10 the last of forty signs", Check.hall(x, FORTY_SIGNS.substring(0, 38) + ">0"), 1);
        CHECK.due("10 is looked at too", x.of(224 - 32, 3), 3);
    }

    /** A new HALL has nothing of the one ahead, be that longer or shorter. */
    private static void hallInsteadOfAnother() {
        FairSeats x = new FairSeats();
        Check.hall(x, "a<1;b<1;c<1");
        CHECK.due("10 barred", x.of(3, 0), 0);
        Check.hall(x, "h<1");
        CHECK.due("10 one LINE", x.told(4), 1);
        CHECK.due("10 barred no more", x.of(3, 0), 1);
        Check.hall(x, "h<1;a<1");
        CHECK.due("10 two LINES", x.told(4), 2);
        CHECK.due("10 barred by the second", x.of(3, 3), 1);
    }

    // ---- Promise 11

    /** "There is no HALL any more: 1 (0: there was none)." */
    private static void openOfOneAndOfNone() {
        FairSeats x = new FairSeats();
        CHECK.due("11 none", x.open(), 0);
        Check.hall(x, "a<0");
        CHECK.due("11 none is LAWFUL", x.of(6, 0), 0);
        Check.say(x, "b<1");
        CHECK.due("11 one", x.open(), 1);
        CHECK.due("11 it is gone", x.open(), 0);
        CHECK.due("11 no LINES", x.told(4), 0);
        CHECK.due("11 all are LAWFUL", x.of(6, 0), 1);
        CHECK.due("11 no LINE is not so", x.of(6, 3), NONE);
        CHECK.due("11 signs stay", x.told(3), 3);
        CHECK.due("11 and can be the HALL", x.hall() * 10 + x.open(), 11);
    }

    // ---- Promise 12

    /** "OUTSIDE: not as many as SEATS." And: "LAWFUL: .. all without a HALL". */
    private static void ofEachSet() {
        for (int seats = 1; seats <= 4; seats++) {
            FairSeats x = Check.with(seats);
            for (int set = 0; set < 256; set++) {
                CHECK.due("12 of " + set + ", SEATS " + seats, x.of(set, 0), Integer.bitCount(set) == seats ? 1 : OUTSIDE);
            }
            int all = (1 << seats) - 1;
            CHECK.dueForEach("12 bits of nobody, SEATS " + seats, set -> x.of(set, 0), OUTSIDE,
                256, all + 256, all - 1 + 256, all + 65536, all - 1 + LEAST, all + LEAST, LEAST, MOST, -1, all << 8);
        }
    }

    /** "what = 0 .. 3" */
    private static void ofSomethingElse() {
        FairSeats x = new FairSeats();
        CHECK.dueForEach("12 of what", what -> x.of(3, what), OUTSIDE, -1, 4, 5, 256, LEAST, MOST);
        CHECK.dueForEach("12 of no COMMITTEE what", what -> x.of(1, what), OUTSIDE, -1, 0, 1, 2, 3, 4);
        CHECK.due("12 the last one that is told", x.of(3, 3), NONE);
    }

    /** "so many of these in a COMMITTEE: fewer, more than that" */
    private static void linesAtEachDigit() {
        for (int digit = 0; digit <= 4; digit++) {
            FairSeats fewer = Check.with(4);
            Check.hall(fewer, "abcd<" + digit);
            FairSeats more = Check.with(4);
            Check.hall(more, "abcd>" + digit);
            for (int n = 0; n <= 4; n++) {
                int committee = (1 << n) - 1 | (1 << 4 - n) - 1 << 4;
                CHECK.due("12 " + n + " are fewer than " + digit, fewer.of(committee, 0), n < digit ? 1 : 0);
                CHECK.due("12 " + n + " are more than " + digit, more.of(committee, 0), n > digit ? 1 : 0);
            }
        }
    }

    /** Each letter is its CANDIDATE, a the first and h the last. */
    private static void linesOfEachLetter() {
        FairSeats x = Check.with(1);
        for (int c = 0; c < 8; c++) {
            Check.hall(x, (char) ('a' + c) + ">0");
            for (int other = 0; other < 8; other++) {
                CHECK.due("12 " + (char) ('a' + c) + ">0 of " + other, x.of(1 << other, 0), other == c ? 1 : 0);
            }
        }
    }

    /** "a COMMITTEE for which all LINES are so"; "the first LINE that is not so (3, from 0 on; NONE)" */
    private static void theFirstLineThatIsNotSo() {
        FairSeats x = new FairSeats();
        Check.hall(x, "a<1;b<1;c<1");
        int[][] due = {{9, 0}, {10, 1}, {12, 2}, {24, NONE}, {3, 0}, {6, 1}, {5, 0}};
        for (int[] d : due) {
            CHECK.due("12 LAWFUL " + d[0], x.of(d[0], 0), d[1] == NONE ? 1 : 0);
            CHECK.due("12 first LINE " + d[0], x.of(d[0], 3), d[1]);
        }
    }

    /** "WORTH of a set of CANDIDATES: all papers together", from none to the most that can be. */
    private static void worthOfNoneAndOfAll() {
        CHECK.due("12 WORTH without HEAPS", Check.with(4).of(15, 1), 0);
        CHECK.due("12 WORTH for those who have nothing", Check.with(4, 240, 100).of(15, 1), 0);
        FairSeats x = Check.with(4, 255, 100, 255, 100, 255, 100, 255, 100, 255, 100, 255, 100);
        CHECK.due("12 WORTH of four", x.of(240, 1), 600 * 125);
        for (int i = 1; i < 4; i++) {
            x.worth(i, 60);
        }
        CHECK.due("12 the most WORTH", x.of(240, 1), 600 * 240);
        int[] due = {60, 90, 110, 125};
        for (int seats = 1; seats <= 4; seats++) {
            FairSeats one = Check.with(seats, 255, 1);
            CHECK.due("12 WORTH of " + seats + " to one paper", one.of((1 << seats) - 1, 1), due[seats - 1]);
        }
    }

    /** "WRONGED: papers that HAVE nothing." */
    private static void wrongedOfNoneAndOfAll() {
        CHECK.due("12 WRONGED without HEAPS", new FairSeats().of(3, 2), 0);
        FairSeats x = sixHeaps();
        CHECK.due("12 all are WRONGED", x.of(192, 2), 210);
        CHECK.due("12 all but the first", x.of(65, 2), 200);
        CHECK.due("12 all but the last", x.of(96, 2), 150);
        CHECK.due("12 nobody is WRONGED", Check.with(2, 3, 100, 1, 100).of(129, 2), 0);
    }

    // ---- Promise 24

    /** "0 HEAPS, 1 all papers, 2 SEATS, 3 signs, 4 LINES of the HALL, 10 to 13 .., 20 to 25 .., 30 to 35 .. OUTSIDE." */
    private static void toldOfSomethingElse() {
        FairSeats x = sixHeaps();
        CHECK.dueForEach("24 told", x::told, OUTSIDE, -1, 5, 9, 14, 19, 26, 29, 36, 40, LEAST, LEAST + 20, MOST, 256, -6);
        int[] first = {0, 10, 20, 30};
        int[] dueFirst = {6, 60, 10, 1};
        int[] last = {4, 13, 25, 35};
        int[] dueLast = {0, 15, 60, 32};
        for (int i = 0; i < 4; i++) {
            CHECK.due("24 told(" + first[i] + ")", x.told(first[i]), dueFirst[i]);
            CHECK.due("24 told(" + last[i] + ")", x.told(last[i]), dueLast[i]);
        }
    }

    /** "20 to 25 papers of HEAPS (NONE), 30 to 35 sets (NONE)" */
    private static void toldOfHeapsThatAreNotThere() {
        FairSeats x = new FairSeats();
        for (int heaps = 0; heaps <= 6; heaps++) {
            for (int h = 0; h < 6; h++) {
                CHECK.due("24 papers of " + h + " of " + heaps, x.told(20 + h), h < heaps ? 50 + h : NONE);
                CHECK.due("24 set of " + h + " of " + heaps, x.told(30 + h), h < heaps ? 100 + h : NONE);
            }
            x.heap(100 + heaps, 50 + heaps);
        }
    }

    /** "1 all papers": none, and the most. */
    private static void toldOfAllPapers() {
        FairSeats x = new FairSeats();
        for (int heaps = 0; heaps <= 6; heaps++) {
            CHECK.due("24 all papers of " + heaps, x.told(1), 100 * heaps);
            x.heap(1, 100);
        }
    }

    public static void main(String[] args) {
        aNewObjectIsEmpty();
        aNewObjectHasTheFirstWorths();
        objectsShareNothing();
        setsOfHeaps();
        papersOfHeaps();
        sixHeapsAtMost();
        heapIsOutsideAheadOfFull();
        changeOfNoHeap();
        changeOfSomethingElse();
        changeOfSets();
        changeOfPapers();
        changeOfOneHeapAlone();
        changeIsUnknownAheadOfOutside();
        dropToTheLast();
        seatsFrom1To4();
        worthOfTheFirstToTheFourth();
        worthFrom0To60();
        worthBetweenItsNeighbours();
        textsAtTheirEdges();
        ofEachSet();
        ofSomethingElse();
        linesAtEachDigit();
        linesOfEachLetter();
        theFirstLineThatIsNotSo();
        worthOfNoneAndOfAll();
        wrongedOfNoneAndOfAll();
        toldOfSomethingElse();
        toldOfHeapsThatAreNotThere();
        toldOfAllPapers();
        CHECK.end();
    }

    private static void textsAtTheirEdges() {
        signsFrom33To126();
        fortySignsAtMost();
        sayIsOutsideAheadOfFull();
        wipeOfNoneAndOfAll();
        wipeLeavesTheHall();
        faultWhereALineBegins();
        faultBehindALetter();
        faultWhereADigitIsDue();
        faultBehindALine();
        faultBehindTheLastSign();
        faultIsTheFirst();
        faultOfFortySigns();
        faultLeavesTheSigns();
        hallWithAFault();
        hallOfNothing();
        hallTakesTheSigns();
        hallOfTheMost();
        hallInsteadOfAnother();
        openOfOneAndOfNone();
    }
}
