import java.util.function.IntUnaryOperator;

/** Counts answers that are as due and prints those that are not. */
final class Check {
    private final String name;
    private int passed;
    private int failed;

    Check(String name) {
        this.name = name;
    }

    void due(String call, long got, long want) {
        if (got == want) {
            passed++;
            return;
        }
        failed++;
        System.out.println(name + ": " + call + " answered " + got + ", due is " + want);
    }

    void holds(String what, boolean so) {
        due(what, so ? 1 : 0, 1);
    }

    /** The same answer is due for each of these numbers. */
    void dueForEach(String call, IntUnaryOperator asked, int want, int... numbers) {
        for (int number : numbers) {
            due(call + " of " + number, asked.applyAsInt(number), want);
        }
    }

    /** What a WAY chooses, one by one, as bits, and nobody behind the last. */
    void order(String what, FairSeats x, int way, int... wanted) {
        int bits = 0;
        for (int i = 0; i < wanted.length; i++) {
            due(what + ", one " + i, x.choose(way, i), wanted[i]);
            bits |= 1 << wanted[i];
        }
        due(what + ", bits", x.choose(way, -1), bits);
        due(what + ", behind the last", x.choose(way, wanted.length), FairSeats.NONE);
    }

    void fraction(String what, long up, long low, long wantedUp, long wantedLow) {
        due(what + ", upper", up, wantedUp);
        due(what + ", lower", low, wantedLow);
    }

    /** So many SEATS, and HEAPS: a set, its papers, the next set, its papers, and so on. */
    static FairSeats with(int seats, int... setsAndPapers) {
        FairSeats x = new FairSeats();
        x.seats(seats);
        for (int i = 0; i + 1 < setsAndPapers.length; i += 2) {
            x.heap(setsAndPapers[i], setsAndPapers[i + 1]);
        }
        return x;
    }

    /** Says a text sign by sign. */
    static void say(FairSeats x, String text) {
        for (int i = 0; i < text.length(); i++) {
            x.say(text.charAt(i));
        }
    }

    /** Makes a text the HALL. */
    static int hall(FairSeats x, String text) {
        x.wipe();
        say(x, text);
        return x.hall();
    }

    void end() {
        System.out.println(name + ": " + passed + " passed, " + failed + " failed");
        if (failed != 0) {
            System.exit(1);
        }
    }
}
