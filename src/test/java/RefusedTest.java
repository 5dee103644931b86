import java.util.List;
import java.util.function.ToLongFunction;

/**
 * "Calls that are refused answer, the first of these that fits: .. They change nothing." Each refused call is made on
 * one of two objects with the same calls behind them; then both have to answer the same to everything.
 */
public final class RefusedTest {
    private static final Check CHECK = new Check("RefusedTest");
    private static final int LEAST = Integer.MIN_VALUE, MOST = Integer.MAX_VALUE;
    private static final long UNKNOWN = -1, OUTSIDE = -2, STATE = -3, FULL = -4, NO = -5, NONE = -6;
    private static final long LOST = FairSeats.LOST;

    /** NEW has nothing yet, SOME has a text that is not whole, and FULL_UP has no room any more. */
    private enum State {
        NEW, SOME, FULL_UP;

        FairSeats made() {
            if (this == NEW) {
                return new FairSeats();
            }
            if (this == SOME) {
                FairSeats x = Check.with(3, 3, 10, 5, 6, 24, 7);
                x.worth(2, 30);
                Check.hall(x, "a<1;bcd>0");
                Check.say(x, "ab<");
                return x;
            }
            FairSeats x = Check.with(4, 3, 100, 5, 90, 24, 80, 16, 70, 36, 60, 192, 50);
            Check.hall(x, "a<4;b<4;c<4;d<4;e<4;f<4;g<4;h<4;ab<2;h>0");
            Check.say(x, "abcdefgh<4;abcdefgh<4;abcdefgh<4;abcdefg");
            return x;
        }
    }

    private static void same(String what, FairSeats x, FairSeats y) {
        List<String> got = Answers.all(x);
        List<String> due = Answers.all(y);
        CHECK.due(what + ": so many answers", got.size(), due.size());
        for (int i = 0; i < due.size() && i < got.size(); i++) {
            CHECK.holds(what + ": then " + got.get(i) + ", not as due: " + due.get(i), got.get(i).equals(due.get(i)));
        }
    }

    private static void refused(State state, long due, String call, ToLongFunction<FairSeats> asked) {
        FairSeats x = state.made();
        String what = call + " of " + state;
        CHECK.due(what, asked.applyAsLong(x), due);
        same(what, x, state.made());
    }

    private static void refusedInEach(long due, String call, ToLongFunction<FairSeats> asked) {
        for (State state : State.values()) {
            refused(state, due, call, asked);
        }
    }

    private static void papersOutside() {
        refusedInEach(OUTSIDE, "heap without a set", x -> x.heap(0, 1));
        refusedInEach(OUTSIDE, "heap with too great a set", x -> x.heap(256, 1));
        refusedInEach(OUTSIDE, "heap without papers", x -> x.heap(1, 0));
        refusedInEach(OUTSIDE, "heap with too many papers", x -> x.heap(1, 101));
        refusedInEach(UNKNOWN, "change of a set, no HEAP", x -> x.change(6, 0, 1));
        refusedInEach(UNKNOWN, "change of papers, HEAP -1", x -> x.change(-1, 1, 1));
        refusedInEach(OUTSIDE, "no seats", x -> x.seats(0));
        refusedInEach(OUTSIDE, "too many seats", x -> x.seats(5));
        refusedInEach(OUTSIDE, "worth -1", x -> x.worth(-1, 60));
        refusedInEach(OUTSIDE, "worth 4", x -> x.worth(4, 0));
        refusedInEach(OUTSIDE, "worth above 60", x -> x.worth(0, 61));
        refusedInEach(OUTSIDE, "worth below 0", x -> x.worth(3, -1));
        refusedInEach(OUTSIDE, "worth above the one ahead", x -> x.worth(2, 31));
        refusedInEach(OUTSIDE, "worth below the one behind", x -> x.worth(2, 14));
        refusedInEach(OUTSIDE, "say too low a sign", x -> x.say(32));
        refusedInEach(OUTSIDE, "say too high a sign", x -> x.say(127));
        refusedInEach(NO, "hall with a FAULT", FairSeats::hall);
        refusedInEach(OUTSIDE, "of no COMMITTEE", x -> x.of(31, 0));
        refusedInEach(OUTSIDE, "of what", x -> x.of((1 << x.told(2)) - 1, 4));
        refusedInEach(OUTSIDE, "told", x -> x.told(5));
    }

    private static void changesOutside() {
        for (State state : new State[] {State.SOME, State.FULL_UP}) {
            refused(state, OUTSIDE, "change of a set to 0", x -> x.change(0, 0, 0));
            refused(state, OUTSIDE, "change of a set to 256", x -> x.change(2, 0, 256));
            refused(state, OUTSIDE, "change of papers to 0", x -> x.change(0, 1, 0));
            refused(state, OUTSIDE, "change of papers to 101", x -> x.change(2, 1, 101));
            refused(state, OUTSIDE, "change of something else", x -> x.change(0, 2, 1));
        }
    }

    private static void nothingThereAndNoRoom() {
        refused(State.NEW, NO, "drop", FairSeats::drop);
        refused(State.NEW, 0, "open", FairSeats::open);
        refused(State.NEW, 0, "wipe", FairSeats::wipe);
        refused(State.FULL_UP, FULL, "heap", x -> x.heap(9, 9));
        refused(State.FULL_UP, FULL, "say", x -> x.say('<'));
        refused(State.FULL_UP, STATE, "more in", x -> x.more(4, 0));
        refused(State.FULL_UP, STATE, "more out", x -> x.more(0, 1));
    }

    private static void questionsRefused() {
        refusedInEach(UNKNOWN, "choose", x -> x.choose(6, -1));
        refusedInEach(NONE, "choose of nobody", x -> x.choose(4, 4));
        refusedInEach(LOST + UNKNOWN, "load of no HEAP", x -> x.load(6, 0, 0));
        refusedInEach(LOST + UNKNOWN, "purse of no HEAP", x -> x.purse(-1, 0, 0));
        refusedInEach(OUTSIDE, "owed to none", x -> x.owed(0, 1));
        refusedInEach(OUTSIDE, "owed none", x -> x.owed(1, 0));
        refusedInEach(UNKNOWN, "breach", x -> x.breach(3, 3, 0));
        refusedInEach(OUTSIDE, "breach of no COMMITTEE", x -> x.breach(0, 31, 0));
        refusedInEach(UNKNOWN, "kept", x -> x.kept(3, -1));
        refusedInEach(NONE, "kept of none", x -> x.kept(0, 70));
        refusedInEach(OUTSIDE, "least", x -> x.least(2));
        refusedInEach(UNKNOWN, "nearest", x -> x.nearest(3, 3));
        refusedInEach(OUTSIDE, "nearest to no COMMITTEE", x -> x.nearest(0, 31));
        refusedInEach(UNKNOWN, "more", x -> x.more(6, 0));
        refusedInEach(OUTSIDE, "more of what", x -> x.more(0, 2));
        refusedInEach(UNKNOWN, "turn by no WAY", x -> x.turn(6, 0, 0));
        refusedInEach(UNKNOWN, "turn of no HEAP", x -> x.turn(0, 6, 0));
        refusedInEach(UNKNOWN, "turn for nobody", x -> x.turn(0, 0, 8));
        refused(State.SOME, LOST + OUTSIDE, "load behind no choice", x -> x.load(0, 4, 0));
        refused(State.SOME, LOST + OUTSIDE, "purse of no part", x -> x.purse(0, 0, 2));
    }

    /** "UNKNOWN .., OUTSIDE .., STATE .., FULL, NO": of two that fit the one that is told first. */
    private static void theFirstThatFits() {
        refused(State.NEW, UNKNOWN, "change: UNKNOWN, OUTSIDE", x -> x.change(0, 2, 0));
        refused(State.FULL_UP, OUTSIDE, "heap: OUTSIDE, FULL", x -> x.heap(0, 0));
        refused(State.FULL_UP, OUTSIDE, "say: OUTSIDE, FULL", x -> x.say(LEAST));
        refused(State.NEW, LOST + UNKNOWN, "load: UNKNOWN, OUTSIDE", x -> x.load(0, 3, 2));
        refused(State.NEW, LOST + UNKNOWN, "purse: UNKNOWN, OUTSIDE", x -> x.purse(0, -1, 2));
        refusedInEach(UNKNOWN, "breach: UNKNOWN, OUTSIDE", x -> x.breach(-1, 0, 3));
        refusedInEach(UNKNOWN, "nearest: UNKNOWN, OUTSIDE", x -> x.nearest(-1, 0));
        refused(State.FULL_UP, UNKNOWN, "more: UNKNOWN, STATE", x -> x.more(6, 0));
        refused(State.FULL_UP, UNKNOWN, "more: UNKNOWN, OUTSIDE, STATE", x -> x.more(MOST, MOST));
        refused(State.FULL_UP, OUTSIDE, "more: OUTSIDE, STATE", x -> x.more(0, -1));
    }

    /** Calls that only tell change nothing either. */
    private static void questionsChangeNothing() {
        for (State state : State.values()) {
            FairSeats x = state.made();
            List<String> first = Answers.asked(x);
            CHECK.holds("asked twice, " + state, first.equals(Answers.asked(x)));
            FairSeats asked = state.made();
            Answers.asked(asked);
            same("asked, " + state, asked, state.made());
        }
    }

    /** "An object is used for at most 512 calls": the last of them is answered as the first. */
    private static void fiveHundredAndTwelveCalls() {
        FairSeats heaps = new FairSeats();
        for (int i = 0; i < 255; i++) {
            CHECK.due("heap, call " + (2 * i + 1), heaps.heap(i + 1, i % 100 + 1), 0);
            CHECK.due("drop, call " + (2 * i + 2), heaps.drop(), 0);
        }
        CHECK.due("call 511", heaps.heap(255, 100), 0);
        CHECK.due("call 512", heaps.choose(2, -1), 3);
        FairSeats signs = new FairSeats();
        for (int i = 0; i < 510; i++) {
            CHECK.due("say, call " + (i + 1), signs.say('a'), i < 40 ? i + 1 : FULL);
        }
        CHECK.due("call 511", signs.fault(), 1);
        CHECK.due("call 512", signs.wipe(), 40);
    }

    public static void main(String[] args) {
        papersOutside();
        changesOutside();
        nothingThereAndNoRoom();
        questionsRefused();
        theFirstThatFits();
        questionsChangeNothing();
        fiveHundredAndTwelveCalls();
        CHECK.end();
    }
}
