import java.util.ArrayList;
import java.util.List;

/** All that an object answers, so that two objects can be told apart; some 200 calls. */
final class Answers {
    private static final int[] TOLD = {0, 1, 2, 3, 4, 10, 11, 12, 13, 20, 21, 22, 23, 24, 25, 30, 31, 32, 33, 34, 35};
    private static final int[] GROUPS = {1, 2, 3, 4, 21, 63};
    private final FairSeats x;
    private final List<String> all = new ArrayList<>();

    private Answers(FairSeats x) {
        this.x = x;
    }

    private void add(String call, long answer) {
        all.add(call + " answered " + answer);
    }

    /** By calls that change nothing. */
    static List<String> asked(FairSeats x) {
        Answers a = new Answers(x);
        a.papers();
        a.ways();
        a.groups();
        a.whatCanBe();
        return a.all;
    }

    /** By calls that change nothing, and behind them by calls that do, so that signs are seen too. */
    static List<String> all(FairSeats x) {
        List<String> answers = asked(x);
        Answers a = new Answers(x);
        a.changes();
        answers.addAll(a.all);
        return answers;
    }

    private int lowest() {
        return (1 << x.told(2)) - 1;
    }

    private void papers() {
        for (int what : TOLD) {
            add("told " + what, x.told(what));
        }
        add("fault", x.fault());
        for (int what = 0; what < 4; what++) {
            add("of the lowest, what " + what, x.of(lowest(), what));
        }
    }

    private void ways() {
        for (int way = 0; way < 6; way++) {
            for (int i = -1; i < 4; i++) {
                add("choose " + way + " " + i, x.choose(way, i));
            }
            add("more in " + way, x.more(way, 0));
            add("more out " + way, x.more(way, 1));
        }
        for (int heap = 0; heap < 6; heap++) {
            for (int part = 0; part < 2; part++) {
                add("load of " + heap, x.load(heap, 1, part));
                add("load of " + heap + " behind all", x.load(heap, x.told(2), part));
                add("purse of " + heap, x.purse(heap, 1, part));
            }
        }
        add("paid", x.paid());
    }

    private void groups() {
        for (int group : GROUPS) {
            add("owed " + group + " 1", x.owed(group, 1));
            add("owed " + group + " 2", x.owed(group, 2));
        }
        for (int law = 0; law < 3; law++) {
            for (int what = 0; what < 3; what++) {
                add("breach " + law + " " + what, x.breach(law, lowest() << 4, what));
            }
        }
    }

    private void whatCanBe() {
        for (int law = 0; law < 3; law++) {
            add("kept " + law, x.kept(law, -1));
            add("kept " + law + ", the third", x.kept(law, 2));
            add("nearest " + law, x.nearest(law, lowest() << 4));
        }
        add("least", x.least(0));
        add("least, WRONGED", x.least(1));
        for (int way = 0; way < 6; way++) {
            add("turn " + way, x.turn(way, 0, 7));
        }
    }

    private void changes() {
        add("say", x.say('0'));
        add("fault then", x.fault());
        add("hall", x.hall());
        add("LINES then", x.told(4));
        add("BEST then", x.choose(4, -1));
        add("signs then", x.wipe());
        add("open", x.open());
        add("seats", x.seats(1));
        for (int i = 3; i >= 0; i--) {
            add("worth " + i, x.worth(i, 0));
        }
        add("heap", x.heap(9, 9));
        add("change", x.change(0, 0, 6));
        for (int h = 0; h <= 6; h++) {
            add("drop", x.drop());
        }
    }
}
