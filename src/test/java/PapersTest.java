/** Promises 1 to 12 and 24: papers, halls, and what is told of them. */
public final class PapersTest {
    private static final Check CHECK = new Check("PapersTest");

    private static void aNewObject() {
        FairSeats x = new FairSeats();
        int[] what = {0, 1, 2, 3, 4, 10, 11, 12, 13, 20, 25, 30, 35};
        int[] due = {0, 0, 2, 0, 0, 60, 30, 20, 15, -6, -6, -6, -6};
        for (int i = 0; i < what.length; i++) {
            CHECK.due("1 told(" + what[i] + ")", x.told(what[i]), due[i]);
        }
        CHECK.due("1 open() without a HALL", x.open(), 0);
        CHECK.due("1 fault() without signs", x.fault(), 0);
    }

    private static void heap() {
        FairSeats x = new FairSeats();
        int[][] bad = {{0, 1}, {-1, 1}, {256, 1}, {1, 0}, {1, 101}, {1, -1},
            {Integer.MAX_VALUE, 1}, {1, Integer.MIN_VALUE}};
        for (int[] b : bad) {
            CHECK.due("2 heap(" + b[0] + ", " + b[1] + ")", x.heap(b[0], b[1]), FairSeats.OUTSIDE);
        }
        for (int h = 0; h < 6; h++) {
            CHECK.due("2 heap " + h, x.heap(h == 0 ? 255 : h, h == 1 ? 100 : 1), h);
        }
        CHECK.due("2 a seventh heap", x.heap(1, 1), FairSeats.FULL);
        CHECK.due("2 a seventh heap, and outside", x.heap(0, 1), FairSeats.OUTSIDE);
        CHECK.due("2 told(1)", x.told(1), 105);
        CHECK.due("24 told(21)", x.told(21), 100);
        CHECK.due("24 told(30)", x.told(30), 255);
    }

    private static void change() {
        FairSeats x = new FairSeats();
        CHECK.due("3 change without heaps", x.change(0, 0, 1), FairSeats.UNKNOWN);
        x.heap(3, 10);
        CHECK.due("3 unknown ahead of outside", x.change(1, 2, 0), FairSeats.UNKNOWN);
        CHECK.due("3 heap -1", x.change(-1, 0, 1), FairSeats.UNKNOWN);
        CHECK.due("3 what 2", x.change(0, 2, 1), FairSeats.OUTSIDE);
        CHECK.due("3 what -1", x.change(0, -1, 1), FairSeats.OUTSIDE);
        CHECK.due("3 set 0", x.change(0, 0, 0), FairSeats.OUTSIDE);
        CHECK.due("3 set 256", x.change(0, 0, 256), FairSeats.OUTSIDE);
        CHECK.due("3 papers 0", x.change(0, 1, 0), FairSeats.OUTSIDE);
        CHECK.due("3 papers 101", x.change(0, 1, 101), FairSeats.OUTSIDE);
        CHECK.due("3 nothing changed", x.told(20) * 1000 + x.told(30), 10003);
        CHECK.due("3 set", x.change(0, 0, 101), 3);
        CHECK.due("3 papers", x.change(0, 1, 100), 10);
        CHECK.due("3 told", x.told(20) * 1000 + x.told(30), 100101);
    }

    private static void drop() {
        FairSeats x = new FairSeats();
        CHECK.due("4 drop of none", x.drop(), FairSeats.NO);
        x.heap(1, 5);
        x.heap(2, 7);
        CHECK.due("4 drop", x.drop(), 1);
        CHECK.due("4 papers left", x.told(1), 5);
        CHECK.due("4 WRONGED are left", x.of(12, 2), 5);
        CHECK.due("4 WORTH is left", x.of(3, 1), 300);
        CHECK.due("4 the last is gone", x.told(21), FairSeats.NONE);
        CHECK.due("4 change of the one that went", x.change(1, 0, 1), FairSeats.UNKNOWN);
        CHECK.due("4 its number comes again", x.heap(4, 1), 1);
        CHECK.due("4 drop", x.drop() + x.drop(), 1);
        CHECK.due("4 drop of none", x.drop(), FairSeats.NO);
    }

    private static void seats() {
        FairSeats x = new FairSeats();
        CHECK.due("5 seats(0)", x.seats(0), FairSeats.OUTSIDE);
        CHECK.due("5 seats(5)", x.seats(5), FairSeats.OUTSIDE);
        CHECK.due("5 seats(-1)", x.seats(-1), FairSeats.OUTSIDE);
        CHECK.due("5 seats(1)", x.seats(1), 2);
        CHECK.due("5 seats(4)", x.seats(4), 1);
        CHECK.due("5 told(2)", x.told(2), 4);
    }

    private static void worth() {
        FairSeats x = new FairSeats();
        int[][] bad = {{-1, 0}, {4, 0}, {0, 61}, {3, -1}, {1, 61}, {2, 31}, {1, 19}, {0, 29}, {3, 21}};
        for (int[] b : bad) {
            CHECK.due("6 worth(" + b[0] + ", " + b[1] + ")", x.worth(b[0], b[1]), FairSeats.OUTSIDE);
        }
        CHECK.due("6 as high as the one ahead", x.worth(1, 60), 30);
        CHECK.due("6 as low as the one behind", x.worth(2, 15), 20);
        CHECK.due("6 the last may be 0", x.worth(3, 0), 15);
        CHECK.due("6 the first", x.worth(0, 60), 60);
        CHECK.due("6 told", x.told(11) * 10000 + x.told(12) * 100 + x.told(13), 601500);
        x.heap(15, 3);
        x.seats(4);
        CHECK.due("6 worths count", x.of(15, 1), 3 * (60 + 60 + 15));
        FairSeats y = new FairSeats();
        CHECK.due("6 below the one behind", y.worth(2, 14), FairSeats.OUTSIDE);
        CHECK.due("6 the first goes down", y.worth(0, 40), 60);
        CHECK.due("6 told(10)", y.told(10), 40);
        CHECK.due("6 above the one ahead", y.worth(1, 41), FairSeats.OUTSIDE);
        CHECK.due("6 as the one ahead", y.worth(1, 40), 30);
    }

    private static void signs() {
        FairSeats x = new FairSeats();
        CHECK.due("7 say(32)", x.say(32), FairSeats.OUTSIDE);
        CHECK.due("7 say(127)", x.say(127), FairSeats.OUTSIDE);
        CHECK.due("7 say(-97)", x.say(-97), FairSeats.OUTSIDE);
        CHECK.due("8 wipe of nothing", x.wipe(), 0);
        for (int i = 1; i <= 40; i++) {
            CHECK.due("7 sign " + i, x.say(i % 2 == 0 ? 33 : 126), i);
        }
        CHECK.due("7 sign 41", x.say(97), FairSeats.FULL);
        CHECK.due("7 sign 41, and outside", x.say(32), FairSeats.OUTSIDE);
        CHECK.due("24 told(3)", x.told(3), 40);
        CHECK.due("8 wipe", x.wipe(), 40);
        CHECK.due("8 told(3)", x.told(3), 0);
    }

    private static void fault() {
        String[] texts = {"", "a", "a<", "a<0", "a>4", "a<5", "h<4;", "h<4;a", "h<4;;", "ba>1", "aa>1", "i<1",
            "abcdefgh>3", "<1", "a<<1", "a<11", "a=1", "A<1", "ac>1;bd<2;h>0", "ac>1;bd<2;hg>0", "a<1,b<1", ";a<1",
            "a<1;b<1;c<1;d<1;e<1;f<1;g<1;h<1;a>0;b>0", "a<1;b<1;c<1;d<1;e<1;f<1;g<1;h<1;a>0;b>0;",
            "a<1;b<1;c<1;d<1;e<1;f<1;g<1;h<1;a>0;bcd>"};
        int[] due = {0, 1, 2, -6, -6, 2, 4, 5, 4, 1, 1, 0, -6, 0, 2, 3, 1, 0, -6, 11, 3, 0, -6, 40, 40};
        for (int i = 0; i < texts.length; i++) {
            FairSeats x = new FairSeats();
            Check.say(x, texts[i]);
            CHECK.due("9 fault of " + texts[i], x.fault(), due[i]);
            CHECK.due("10 hall of " + texts[i], x.hall(), due[i] == FairSeats.NONE ? 1 : FairSeats.NO);
            CHECK.due("10 signs behind " + texts[i], x.told(3), due[i] == FairSeats.NONE ? 0 : texts[i].length());
        }
    }

    private static void hall() {
        FairSeats x = new FairSeats();
        CHECK.due("10 hall", Check.hall(x, "ab<2;cd>0"), 1);
        CHECK.due("24 told(4)", x.told(4), 2);
        CHECK.due("10 a text with a FAULT", Check.hall(x, "ab<2;"), FairSeats.NO);
        CHECK.due("10 the old HALL stands", x.told(4), 2);
        CHECK.due("10 another", Check.hall(x, "h>0"), 1);
        CHECK.due("10 it alone", x.told(4), 1);
        CHECK.due("10 and not the old", x.of(128 + 4, 0) * 10 + x.of(3, 0), 10);
        Check.say(x, "a<");
        CHECK.due("11 open", x.open(), 1);
        CHECK.due("11 the signs stay", x.told(3), 2);
        CHECK.due("11 no LINES", x.told(4), 0);
        CHECK.due("11 all are LAWFUL", x.of(3, 0), 1);
        CHECK.due("11 open again", x.open(), 0);
        CHECK.due("10 ten LINES", Check.hall(x, "a<1;b<1;c<1;d<1;e<1;f<1;g<1;h<1;a>0;b>0"), 1);
        CHECK.due("24 ten LINES", x.told(4), 10);
        CHECK.due("12 the last LINE", Check.hall(x, "a<4;a<4;a<4;a<4;a<4;a<4;a<4;a<4;a<4;h>0") * 100 + x.of(3, 3), 109);
    }

    private static void of() {
        FairSeats x = new FairSeats();
        x.heap(7, 10);
        x.heap(12, 4);
        x.heap(128, 1);
        Check.hall(x, "abc<2;d>0;ad>1");
        int[] bad = {0, 1, 7, 256, 257, 768, -1, Integer.MIN_VALUE + 1, Integer.MIN_VALUE};
        for (int c : bad) {
            CHECK.due("12 of(" + c + ", 0)", x.of(c, 0), FairSeats.OUTSIDE);
        }
        CHECK.due("12 what -1", x.of(3, -1), FairSeats.OUTSIDE);
        CHECK.due("12 what 4", x.of(3, 4), FairSeats.OUTSIDE);
        int[][] due = {{3, 0, 900, 5, 0}, {9, 1, 840, 1, -6}, {12, 0, 960, 1, 2}, {48, 0, 0, 15, 1}, {129, 0, 660, 4, 1}};
        for (int[] d : due) {
            for (int what = 0; what < 4; what++) {
                CHECK.due("12 of(" + d[0] + ", " + what + ")", x.of(d[0], what), d[what + 1]);
            }
        }
        x.seats(4);
        CHECK.due("12 WORTH of four", x.of(15, 1), 10 * 110 + 4 * 90);
        CHECK.due("12 not as many as SEATS any more", x.of(3, 1), FairSeats.OUTSIDE);
    }

    private static void told() {
        FairSeats x = new FairSeats();
        for (int h = 0; h < 6; h++) {
            x.heap(h + 9, h + 50);
        }
        for (int h = 0; h < 6; h++) {
            CHECK.due("24 papers of " + h, x.told(20 + h), h + 50);
            CHECK.due("24 set of " + h, x.told(30 + h), h + 9);
        }
        CHECK.due("24 HEAPS", x.told(0), 6);
        CHECK.due("24 papers", x.told(1), 315);
        int[] bad = {-1, 5, 9, 14, 19, 26, 29, 36, 100, Integer.MIN_VALUE, Integer.MAX_VALUE};
        for (int b : bad) {
            CHECK.due("24 told(" + b + ")", x.told(b), FairSeats.OUTSIDE);
        }
    }

    public static void main(String[] args) {
        aNewObject();
        heap();
        change();
        drop();
        seats();
        worth();
        signs();
        fault();
        hall();
        of();
        told();
        CHECK.end();
    }
}
