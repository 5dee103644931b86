import java.util.Random;

/** Runs of calls, drawn with fixed seeds, on the program and on the slow telling of the document. */
public final class ModelTest {
    private final Check check;
    private final Random random;
    private final int papersMost;
    private final FairSeats x = new FairSeats();
    private final SlowSeats y = new SlowSeats();

    private ModelTest(Check check, long seed, int papersMost) {
        this.check = check;
        this.random = new Random(seed);
        this.papersMost = papersMost;
    }

    private int any(int from, int to) {
        return from + random.nextInt(to - from + 1);
    }

    /** A number between, and now and then one that is not. */
    private int near(int from, int to) {
        int kind = random.nextInt(40);
        if (kind == 0) return from - 1;
        if (kind == 1) return to + 1;
        if (kind == 2) return random.nextInt();
        if (kind == 3) return random.nextBoolean() ? Integer.MIN_VALUE : Integer.MAX_VALUE;
        return any(from, to);
    }

    private int set() {
        if (random.nextInt(20) == 0) return near(1, 255);
        int set = 0;
        for (int k = any(1, 3); k > 0; k--) set |= 1 << (random.nextInt(3) == 0 ? any(0, 7) : any(0, 4));
        return set;
    }

    private int committee() {
        int seats = y.told(2);
        if (random.nextInt(15) == 0) return near(0, 255);
        int set = 0;
        while (Integer.bitCount(set) < seats) set |= 1 << any(0, random.nextBoolean() ? 7 : 4);
        return set;
    }

    private int papers() {
        return random.nextInt(25) == 0 ? near(1, 100) : any(1, papersMost);
    }

    private void same(String call, long got, long want) {
        check.due(call, got, want);
    }

    private void step() {
        switch (random.nextInt(30)) {
            case 0, 1, 2 -> { int a = set(), b = papers(); same("heap " + a + " " + b, x.heap(a, b), y.heap(a, b)); }
            case 3 -> {
                int h = near(0, Math.max(0, y.told(0) - 1)), w = near(0, 1), v = w == 0 ? set() : papers();
                same("change " + h + " " + w + " " + v, x.change(h, w, v), y.change(h, w, v));
            }
            case 4 -> { if (random.nextInt(3) == 0) same("drop", x.drop(), y.drop()); }
            case 5 -> { int n = near(1, 4); same("seats " + n, x.seats(n), y.seats(n)); }
            case 6 -> { int i = near(0, 3), v = near(0, 60); same("worth " + i + " " + v, x.worth(i, v), y.worth(i, v)); }
            case 7, 8, 9 -> text();
            case 10 -> { if (random.nextInt(3) == 0) same("open", x.open(), y.open()); }
            case 11 -> { int c = committee(), w = near(0, 3); same("of " + c + " " + w, x.of(c, w), y.of(c, w)); }
            case 12, 13, 14, 15 -> { int w = near(0, 5), i = near(-1, 4); same("choose " + w + " " + i, x.choose(w, i), y.choose(w, i)); }
            case 16, 17 -> {
                int h = near(0, Math.max(0, y.told(0) - 1)), i = near(0, y.told(2)), p = near(0, 1);
                same("load " + h + " " + i + " " + p, x.load(h, i, p), y.load(h, i, p));
                same("purse " + h + " " + i + " " + p, x.purse(h, i, p), y.purse(h, i, p));
            }
            case 18 -> same("paid", x.paid(), y.paid());
            case 19 -> { int g = near(1, Math.max(1, (1 << y.told(0)) - 1)), l = near(1, 4); same("owed " + g + " " + l, x.owed(g, l), y.owed(g, l)); }
            case 20, 21, 22 -> {
                int l = near(0, 2), c = committee(), w = near(0, 2);
                same("breach " + l + " " + c + " " + w, x.breach(l, c, w), y.breach(l, c, w));
            }
            case 23 -> { int l = near(0, 2), i = near(-1, 40); same("kept " + l + " " + i, x.kept(l, i), y.kept(l, i)); }
            case 24 -> { int w = near(0, 1); same("least " + w, x.least(w), y.least(w)); }
            case 25 -> { int l = near(0, 2), c = committee(); same("nearest " + l + " " + c, x.nearest(l, c), y.nearest(l, c)); }
            case 26, 27 -> { int w = near(0, 5), k = near(0, 1); same("more " + w + " " + k, x.more(w, k), y.more(w, k)); }
            case 28 -> turnOnce();
            default -> { int w = near(0, 36); same("told " + w, x.told(w), y.told(w)); }
        }
    }

    private void turnOnce() {
        int w = near(0, 5), h = near(0, Math.max(0, y.told(0) - 1)), c = near(0, 7);
        // The slow one counts paper by paper.
        if (y.told(1) > 90) return;
        same("turn " + w + " " + h + " " + c, x.turn(w, h, c), y.turn(w, h, c));
    }

    private void text() {
        StringBuilder text = new StringBuilder();
        for (int k = any(1, random.nextInt(6) == 0 ? 11 : 3); k > 0; k--) {
            for (int c = 0; c < 8; c++) if (random.nextInt(3) == 0) text.append((char) ('a' + c));
            text.append(random.nextBoolean() ? '<' : '>').append(any(0, random.nextInt(9) == 0 ? 5 : 2));
            if (k > 1) text.append(';');
        }
        if (random.nextInt(4) == 0) text.setCharAt(any(0, text.length() - 1), (char) any(33, 126));
        if (random.nextInt(6) == 0) text.setLength(any(0, text.length()));
        for (int i = 0; i < text.length(); i++) same("say " + text, x.say(text.charAt(i)), y.say(text.charAt(i)));
        int odd = near(33, 126);
        if (random.nextInt(5) == 0) same("say " + odd, x.say(odd), y.say(odd));
        same("fault " + text, x.fault(), y.fault());
        if (random.nextInt(3) != 0) same("hall " + text, x.hall(), y.hall());
        if (random.nextInt(4) != 0) same("wipe", x.wipe(), y.wipe());
    }

    private void told() {
        for (int w = -2; w < 40; w++) same("told " + w, x.told(w), y.told(w));
    }

    /** Six HEAPS, so that the false papers of TURN need a row of their own. */
    private void turnsOfSix() {
        for (int h = 0; h < 6; h++) {
            int a = set(), b = any(1, papersMost);
            same("heap " + a + " " + b, x.heap(a, b), y.heap(a, b));
        }
        int n = any(1, 4);
        same("seats " + n, x.seats(n), y.seats(n));
        for (int k = 0; k < 30; k++) turnOnce();
    }

    public static void main(String[] args) {
        Check check = new Check("ModelTest");
        for (int seed = 0; seed < 150; seed++) {
            new ModelTest(check, seed, 4 + seed % 9).turnsOfSix();
        }
        for (int seed = 0; seed < 900; seed++) {
            ModelTest t = new ModelTest(check, seed, seed % 5 == 0 ? 100 : seed % 2 == 0 ? 4 : 12);
            for (int k = 0; k < 120; k++) t.step();
            t.told();
        }
        check.end();
    }
}
