import java.math.BigInteger;
import java.util.ArrayList;
import java.util.List;
import java.util.regex.Matcher;
import java.util.regex.Pattern;

/**
 * The document once more, told in another way: paper by paper, with big fractions, with every group
 * and every l tried, and the HALL as a pattern. Slow, and for tests alone.
 */
final class SlowSeats {
    static final int NONE = -6, UNKNOWN = -1, OUTSIDE = -2, STATE = -3, FULL = -4, NO = -5;
    static final long LOST = -1000000000000000000L;
    private static final Pattern HALL =
        Pattern.compile("(?:(?=[a-h])a?b?c?d?e?f?g?h?[<>][0-4])(?:;(?=[a-h])a?b?c?d?e?f?g?h?[<>][0-4])*");

    record Ratio(BigInteger up, BigInteger low) implements Comparable<Ratio> {
        static Ratio of(long up) {
            return new Ratio(BigInteger.valueOf(up), BigInteger.ONE);
        }

        Ratio plus(Ratio o) {
            return lowest(up.multiply(o.low).add(o.up.multiply(low)), low.multiply(o.low));
        }

        Ratio minus(Ratio o) {
            return plus(new Ratio(o.up.negate(), o.low));
        }

        Ratio by(int n) {
            return lowest(up, low.multiply(BigInteger.valueOf(n)));
        }

        static Ratio lowest(BigInteger up, BigInteger low) {
            BigInteger d = up.gcd(low);
            return new Ratio(up.divide(d), low.divide(d));
        }

        @Override
        public int compareTo(Ratio o) {
            return up.multiply(o.low).compareTo(o.up.multiply(low));
        }
    }

    private final List<int[]> heaps = new ArrayList<>();
    private final int[] worths = {60, 30, 20, 15};
    private int seats = 2;
    private String signs = "";
    private String hall = "";

    // What the last run of LOAD or SHARE left to each paper, and how many were paid.
    private Ratio[] left;
    private int paidLast;

    int heap(int set, int papers) {
        if (set < 1 || set > 255 || papers < 1 || papers > 100) return OUTSIDE;
        if (heaps.size() == 6) return FULL;
        heaps.add(new int[] {set, papers});
        return heaps.size() - 1;
    }

    int change(int heap, int what, int v) {
        if (heap < 0 || heap >= heaps.size()) return UNKNOWN;
        if (what < 0 || what > 1 || v < 1 || v > (what == 0 ? 255 : 100)) return OUTSIDE;
        int old = heaps.get(heap)[what];
        heaps.get(heap)[what] = v;
        return old;
    }

    int drop() {
        if (heaps.isEmpty()) return NO;
        heaps.remove(heaps.size() - 1);
        return heaps.size();
    }

    int seats(int n) {
        if (n < 1 || n > 4) return OUTSIDE;
        int old = seats;
        seats = n;
        return old;
    }

    int worth(int i, int v) {
        if (i < 0 || i > 3 || v < 0 || v > 60) return OUTSIDE;
        int[] then = worths.clone();
        then[i] = v;
        for (int k = 1; k < 4; k++) if (then[k] > then[k - 1]) return OUTSIDE;
        int old = worths[i];
        worths[i] = v;
        return old;
    }

    int say(int sign) {
        if (sign < 33 || sign > 126) return OUTSIDE;
        if (signs.length() == 40) return FULL;
        signs += (char) sign;
        return signs.length();
    }

    int wipe() {
        int n = signs.length();
        signs = "";
        return n;
    }

    int fault() {
        for (int p = 0; p < signs.length(); p++) if (!canGoOn(signs.substring(0, p + 1))) return p;
        return HALL.matcher(signs).matches() ? NONE : signs.length();
    }

    private static boolean canGoOn(String begin) {
        for (String end : new String[] {"", "a<0", "<0", "0"}) {
            Matcher m = HALL.matcher(begin + end);
            if (m.matches()) return true;
        }
        return false;
    }

    int hall() {
        if (fault() != NONE) return NO;
        hall = signs;
        signs = "";
        return 1;
    }

    int open() {
        int was = hall.isEmpty() ? 0 : 1;
        hall = "";
        return was;
    }

    private String[] lines() {
        return hall.isEmpty() ? new String[0] : hall.split(";");
    }

    private int firstBroken(int committee) {
        String[] lines = lines();
        for (int k = 0; k < lines.length; k++) {
            int n = 0;
            String line = lines[k];
            for (int j = 0; j < line.length() - 2; j++) n += committee >> line.charAt(j) - 'a' & 1;
            int d = line.charAt(line.length() - 1) - '0';
            boolean so = line.charAt(line.length() - 2) == '<' ? n < d : n > d;
            if (!so) return k;
        }
        return NONE;
    }

    private boolean isCommittee(int set) {
        return set >= 0 && set <= 255 && Integer.bitCount(set) == seats;
    }

    private static int has(int paper, int set) {
        return Integer.bitCount(paper & set);
    }

    private List<Integer> papers() {
        List<Integer> all = new ArrayList<>();
        for (int[] h : heaps) for (int k = 0; k < h[1]; k++) all.add(h[0]);
        return all;
    }

    private int worthOf(List<Integer> papers, int set) {
        int sum = 0;
        for (int p : papers) for (int k = 0; k < has(p, set); k++) sum += worths[k];
        return sum;
    }

    private int wronged(int set) {
        int n = 0;
        for (int p : papers()) if (has(p, set) == 0) n++;
        return n;
    }

    int of(int committee, int what) {
        if (!isCommittee(committee) || what < 0 || what > 3) return OUTSIDE;
        if (what == 0) return firstBroken(committee) == NONE ? 1 : 0;
        if (what == 1) return worthOf(papers(), committee);
        return what == 2 ? wronged(committee) : firstBroken(committee);
    }

    private static int tellers(List<Integer> papers, int c) {
        int n = 0;
        for (int p : papers) n += p >> c & 1;
        return n;
    }

    private static List<Integer> free(List<Integer> chosen) {
        List<Integer> left = new ArrayList<>();
        for (int c = 0; c < 8; c++) if (!chosen.contains(c)) left.add(c);
        return left;
    }

    private static int bits(List<Integer> chosen) {
        int set = 0;
        for (int c : chosen) set |= 1 << c;
        return set;
    }

    private static List<Integer> members(int set) {
        List<Integer> all = new ArrayList<>();
        for (int c = 0; c < 8; c++) if ((set >> c & 1) == 1) all.add(c);
        return all;
    }

    private static int nextByHeads(List<Integer> papers, List<Integer> chosen) {
        int best = -1;
        for (int c : free(chosen)) if (best < 0 || tellers(papers, c) > tellers(papers, best)) best = c;
        return best;
    }

    private int nextByWorth(List<Integer> papers, List<Integer> chosen) {
        int best = -1;
        int set = bits(chosen);
        for (int c : free(chosen)) {
            if (best < 0 || worthOf(papers, set | 1 << c) > worthOf(papers, set | 1 << best)) best = c;
        }
        return best;
    }

    private Ratio weight(List<Integer> papers, int c) {
        Ratio sum = Ratio.of(1);
        for (int p = 0; p < left.length; p++) if ((papers.get(p) >> c & 1) == 1) sum = sum.plus(left[p]);
        return sum.by(tellers(papers, c));
    }

    private int nextByLoad(List<Integer> papers, List<Integer> chosen) {
        int best = -1;
        Ratio bestWeight = null;
        for (int c : free(chosen)) {
            if (tellers(papers, c) == 0) continue;
            Ratio w = weight(papers, c);
            if (bestWeight == null || w.compareTo(bestWeight) < 0) {
                best = c;
                bestWeight = w;
            }
        }
        if (best < 0) return free(chosen).get(0);
        for (int p = 0; p < left.length; p++) if ((papers.get(p) >> best & 1) == 1) left[p] = bestWeight;
        return best;
    }

    /** null: the candidate is not to be had. */
    private Ratio rho(List<Integer> papers, int c) {
        List<Ratio> purses = new ArrayList<>();
        for (int p = 0; p < left.length; p++) if ((papers.get(p) >> c & 1) == 1) purses.add(left[p]);
        purses.sort(null);
        Ratio open = Ratio.of(papers.size());
        for (int k = 0; k < purses.size(); k++) {
            Ratio each = open.by(purses.size() - k);
            if (each.compareTo(purses.get(k)) <= 0) return each;
            open = open.minus(purses.get(k));
        }
        return null;
    }

    private int nextBySharing(List<Integer> papers, List<Integer> chosen) {
        int best = -1;
        Ratio bestRho = null;
        for (int c : free(chosen)) {
            Ratio r = rho(papers, c);
            if (r != null && (bestRho == null || r.compareTo(bestRho) < 0)) {
                best = c;
                bestRho = r;
            }
        }
        if (best < 0) return nextByHeads(papers, chosen);
        paidLast++;
        for (int p = 0; p < left.length; p++) {
            if ((papers.get(p) >> best & 1) == 1) {
                left[p] = left[p].compareTo(bestRho) < 0 ? Ratio.of(0) : left[p].minus(bestRho);
            }
        }
        return best;
    }

    private List<Integer> best(List<Integer> papers, int n) {
        int found = 0;
        for (int set = 1; set < 256; set++) {
            if (Integer.bitCount(set) != n || firstBroken(set) != NONE) continue;
            if (found == 0 || worthOf(papers, set) > worthOf(papers, found)) found = set;
        }
        return members(found);
    }

    private List<Integer> mend(List<Integer> papers, int set) {
        while (true) {
            int found = -1;
            for (int out : members(set)) {
                for (int in : free(members(set))) {
                    int swapped = set - (1 << out) + (1 << in);
                    if (found < 0 || worthOf(papers, swapped) > worthOf(papers, found)) found = swapped;
                }
            }
            if (worthOf(papers, found) <= worthOf(papers, set)) return members(set);
            set = found;
        }
    }

    private List<Integer> run(int way, List<Integer> papers, int n, int choices) {
        List<Integer> chosen = new ArrayList<>();
        if (way == 4) return best(papers, n);
        left = new Ratio[papers.size()];
        for (int p = 0; p < left.length; p++) left[p] = Ratio.of(way == 3 ? n : 0);
        paidLast = 0;
        for (int k = 0; k < choices; k++) {
            if (way == 0) chosen.add(nextByHeads(papers, chosen));
            if (way == 1 || way == 5) chosen.add(nextByWorth(papers, chosen));
            if (way == 2) chosen.add(nextByLoad(papers, chosen));
            if (way == 3) chosen.add(nextBySharing(papers, chosen));
        }
        return way == 5 ? mend(papers, bits(chosen)) : chosen;
    }

    int choose(int way, int i) {
        if (way < 0 || way > 5) return UNKNOWN;
        List<Integer> chosen = run(way, papers(), seats, seats);
        if (i == -1) return bits(chosen);
        return i >= 0 && i < chosen.size() ? chosen.get(i) : NONE;
    }

    private long part(int way, int heap, int i, int part) {
        if (heap < 0 || heap >= heaps.size()) return LOST + UNKNOWN;
        if (i < 0 || i > seats || part < 0 || part > 1) return LOST + OUTSIDE;
        run(way, papers(), seats, i);
        int first = 0;
        for (int h = 0; h < heap; h++) first += heaps.get(h)[1];
        return (part == 0 ? left[first].up() : left[first].low()).longValueExact();
    }

    long load(int heap, int i, int part) {
        return part(2, heap, i, part);
    }

    long purse(int heap, int i, int part) {
        return part(3, heap, i, part);
    }

    int paid() {
        run(3, papers(), seats, seats);
        return paidLast;
    }

    private boolean isOwed(int group, int l) {
        int common = 255;
        int n = 0;
        for (int h = 0; h < heaps.size(); h++) {
            if ((group >> h & 1) == 0) continue;
            common &= heaps.get(h)[0];
            n += heaps.get(h)[1];
        }
        return Integer.bitCount(common) >= l && n * seats >= l * papers().size();
    }

    int owed(int group, int l) {
        if (l < 1 || l > 4 || group < 1 || group >= 1 << heaps.size()) return OUTSIDE;
        return isOwed(group, l) ? 1 : 0;
    }

    private boolean isWronged(int law, int group, int l, int committee) {
        int any = 0;
        boolean each = true;
        for (int h = 0; h < heaps.size(); h++) {
            if ((group >> h & 1) == 0) continue;
            any |= heaps.get(h)[0];
            if (has(heaps.get(h)[0], committee) >= l) each = false;
        }
        return law == 1 ? Integer.bitCount(any & committee) < l : each;
    }

    /** l and the group; null: the LAW holds. */
    private int[] breachOf(int law, int committee) {
        for (int l = 1; l <= (law == 0 ? 1 : 4); l++) {
            for (int g = 1; g < 1 << heaps.size(); g++) {
                if (isOwed(g, l) && isWronged(law, g, l, committee)) return new int[] {l, g};
            }
        }
        return null;
    }

    int breach(int law, int committee, int what) {
        if (law < 0 || law > 2) return UNKNOWN;
        if (!isCommittee(committee) || what < 0 || what > 2) return OUTSIDE;
        int[] b = breachOf(law, committee);
        if (what == 0) return b == null ? 0 : 1;
        return b == null ? NONE : b[what - 1];
    }

    private List<Integer> keptOnes(int law) {
        List<Integer> all = new ArrayList<>();
        for (int set = 0; set < 256; set++) {
            if (isCommittee(set) && firstBroken(set) == NONE && breachOf(law, set) == null) all.add(set);
        }
        return all;
    }

    int kept(int law, int i) {
        if (law < 0 || law > 2) return UNKNOWN;
        List<Integer> all = keptOnes(law);
        if (i == -1) return all.size();
        return i >= 0 && i < all.size() ? all.get(i) : NONE;
    }

    int least(int what) {
        if (what < 0 || what > 1) return OUTSIDE;
        for (int n = 0; n <= 600; n++) {
            for (int set = 0; set < 256; set++) {
                if (!isCommittee(set) || firstBroken(set) != NONE) continue;
                if (wronged(set) == n) return what == 0 ? set : n;
            }
            if (n > papers().size()) break;
        }
        return NONE;
    }

    int nearest(int law, int committee) {
        if (law < 0 || law > 2) return UNKNOWN;
        if (!isCommittee(committee)) return OUTSIDE;
        List<Integer> all = keptOnes(law);
        for (int others = 0; others <= 4; others++) {
            for (int set : all) if (seats - has(set, committee) == others) return set;
        }
        return NONE;
    }

    int more(int way, int what) {
        if (way < 0 || way > 5) return UNKNOWN;
        if (what < 0 || what > 1) return OUTSIDE;
        if (seats == 4) return STATE;
        int before = bits(run(way, papers(), seats, seats));
        int after = bits(run(way, papers(), seats + 1, seats + 1));
        return what == 0 ? after - (after & before) : before - (after & before);
    }

    int turn(int way, int heap, int candidate) {
        if (way < 0 || way > 5 || heap < 0 || heap >= heaps.size() || candidate < 0 || candidate > 7) {
            return UNKNOWN;
        }
        for (int k = 0; k <= heaps.get(heap)[1]; k++) {
            List<Integer> papers = new ArrayList<>();
            for (int h = 0; h < heaps.size(); h++) {
                int n = heaps.get(h)[1] - (h == heap ? k : 0);
                for (int j = 0; j < n; j++) papers.add(heaps.get(h)[0]);
            }
            for (int j = 0; j < k; j++) papers.add(1 << candidate);
            if (run(way, papers, seats, seats).contains(candidate)) return k;
        }
        return NONE;
    }

    int told(int what) {
        if (what == 0) return heaps.size();
        if (what == 1) return papers().size();
        if (what == 2) return seats;
        if (what == 3) return signs.length();
        if (what == 4) return lines().length;
        if (what >= 10 && what <= 13) return worths[what - 10];
        if (what >= 20 && what <= 25) return what - 20 < heaps.size() ? heaps.get(what - 20)[1] : NONE;
        if (what >= 30 && what <= 35) return what - 30 < heaps.size() ? heaps.get(what - 30)[0] : NONE;
        return OUTSIDE;
    }
}
