/** A committee that speaks for all. The document in ../shared/DOC.md says what each call answers. */
public final class FairSeats {
    public static final int NONE = -6, UNKNOWN = -1, OUTSIDE = -2, STATE = -3, FULL = -4, NO = -5;
    public static final long LOST = -1000000000000000000L;

    private static final int CANDIDATES = 8, EVERYONE = 255;
    private static final int HEAPS_MAX = 6, PAPERS_MAX = 100, SEATS_MAX = 4, SEATS_FIRST = 2;
    private static final int WORTH_MAX = 60;
    private static final int SIGN_LEAST = 33, SIGN_MOST = 126, SIGNS_MAX = 40;
    // A LINE has three signs or more and a ; ahead of the next, so 40 signs hold ten.
    private static final int LINES_MAX = 10;
    // Four of eight: no number of SEATS has more COMMITTEES.
    private static final int COMMITTEES_MAX = 70;
    // Euclid's steps for two longs stay below this.
    private static final int EUCLID_MAX = 100;

    private static final int MOST = 0, GREEDY = 1, LOAD = 2, SHARE = 3, BEST = 4, MEND = 5;
    private static final int LAW_SOMEBODY = 0, LAW_TOGETHER = 1, LAW_EACH = 2;

    private final Worths worths;
    private final Heaps heaps;
    private final Heaps trial;
    private final Text text;
    private final Lines lines;
    private final Committees lawful;
    private final Groups groups;
    private final Ways ways;
    private int seatCount;

    public FairSeats() {
        worths = new Worths();
        heaps = new Heaps(worths);
        trial = new Heaps(worths);
        text = new Text();
        lines = new Lines();
        lawful = new Committees();
        groups = new Groups();
        ways = new Ways(lawful);
        seatCount = SEATS_FIRST;
    }

    // ---- 1 papers, halls

    public int heap(int set, int papers) {
        if (!isSet(set) || !isPapers(papers)) {
            return OUTSIDE;
        }
        if (heaps.count >= HEAPS_MAX) {
            return FULL;
        }
        heaps.append(set, papers);
        return heaps.count - 1;
    }

    public int change(int heap, int what, int v) {
        if (!isHeap(heap)) {
            return UNKNOWN;
        }
        if (what == 0 && isSet(v)) {
            int old = heaps.sets[heap];
            heaps.sets[heap] = v;
            return old;
        }
        if (what == 1 && isPapers(v)) {
            int old = heaps.papers[heap];
            heaps.papers[heap] = v;
            return old;
        }
        return OUTSIDE;
    }

    public int drop() {
        if (heaps.count <= 0) {
            return NO;
        }
        heaps.count--;
        return heaps.count;
    }

    public int seats(int n) {
        if (n < 1 || n > SEATS_MAX) {
            return OUTSIDE;
        }
        int old = seatCount;
        seatCount = n;
        return old;
    }

    public int worth(int i, int v) {
        if (i < 0 || i >= SEATS_MAX || !worths.fits(i, v)) {
            return OUTSIDE;
        }
        int old = worths.each[i];
        worths.put(i, v);
        return old;
    }

    public int say(int sign) {
        if (sign < SIGN_LEAST || sign > SIGN_MOST) {
            return OUTSIDE;
        }
        if (text.length >= SIGNS_MAX) {
            return FULL;
        }
        text.append(sign);
        return text.length;
    }

    public int wipe() {
        int old = text.length;
        text.length = 0;
        return old;
    }

    public int fault() {
        return text.firstFault();
    }

    public int hall() {
        if (text.firstFault() != NONE) {
            return NO;
        }
        lines.read(text);
        text.length = 0;
        return 1;
    }

    public int open() {
        if (lines.count == 0) {
            return 0;
        }
        lines.count = 0;
        return 1;
    }

    public int of(int committee, int what) {
        if (!isCommittee(committee)) {
            return OUTSIDE;
        }
        switch (what) {
            case 0:
                return lines.allow(committee) ? 1 : 0;
            case 1:
                return heaps.worthOf(committee);
            case 2:
                return heaps.wronged(committee);
            case 3:
                return lines.firstBroken(committee);
            default:
                return OUTSIDE;
        }
    }

    // ---- 2 ways

    public int choose(int way, int i) {
        if (!isWay(way)) {
            return UNKNOWN;
        }
        runWay(way, seatCount);
        return i == -1 ? ways.chosen : ways.chosenAt(i);
    }

    public long load(int heap, int i, int part) {
        int refusal = refusalOfShare(heap, i, part);
        if (refusal != 0) {
            return LOST + refusal;
        }
        ways.byLoads(heaps, i);
        return ways.loads.lowest(heap, part);
    }

    public long purse(int heap, int i, int part) {
        int refusal = refusalOfShare(heap, i, part);
        if (refusal != 0) {
            return LOST + refusal;
        }
        ways.byPurses(heaps, seatCount, i);
        return ways.purses.lowest(heap, part);
    }

    public int paid() {
        ways.byPurses(heaps, seatCount, seatCount);
        return ways.paidCount;
    }

    // ---- 3 owed

    public int owed(int group, int l) {
        if (l < 1 || l > SEATS_MAX || group < 1 || group >= 1 << heaps.count) {
            return OUTSIDE;
        }
        groups.gather(heaps, seatCount);
        return l <= groups.due[group] ? 1 : 0;
    }

    public int breach(int law, int committee, int what) {
        if (!isLaw(law)) {
            return UNKNOWN;
        }
        if (!isCommittee(committee) || what < 0 || what > 2) {
            return OUTSIDE;
        }
        groups.gather(heaps, seatCount);
        groups.seekBreach(law, committee);
        if (what == 0) {
            return groups.breachSize == NONE ? 0 : 1;
        }
        return what == 1 ? groups.breachSize : groups.breachGroup;
    }

    // ---- 4 what can be

    public int kept(int law, int i) {
        if (!isLaw(law)) {
            return UNKNOWN;
        }
        gatherKept(law);
        return i == -1 ? lawful.count : lawful.at(i);
    }

    public int least(int what) {
        if (what < 0 || what > 1) {
            return OUTSIDE;
        }
        lawful.gather(lines, seatCount);
        int found = lawful.leastWronged(heaps);
        return found == NONE || what == 0 ? found : heaps.wronged(found);
    }

    public int nearest(int law, int committee) {
        if (!isLaw(law)) {
            return UNKNOWN;
        }
        if (!isCommittee(committee)) {
            return OUTSIDE;
        }
        gatherKept(law);
        return lawful.closestTo(committee);
    }

    public int more(int way, int what) {
        if (!isWay(way)) {
            return UNKNOWN;
        }
        if (what < 0 || what > 1) {
            return OUTSIDE;
        }
        if (seatCount >= SEATS_MAX) {
            return STATE;
        }
        runWay(way, seatCount);
        int before = ways.chosen;
        runWay(way, seatCount + 1);
        int after = ways.chosen;
        return what == 0 ? after & ~before : before & ~after;
    }

    public int turn(int way, int heap, int candidate) {
        if (!isWay(way) || !isHeap(heap) || candidate < 0 || candidate >= CANDIDATES) {
            return UNKNOWN;
        }
        lawful.gather(lines, seatCount);
        trial.copyOf(heaps);
        trial.append(1 << candidate, 0);
        int most = heaps.papers[heap];
        for (int moved = 0; moved <= most; moved++) {
            ways.run(way, trial, seatCount);
            if (ways.holds(candidate)) {
                return moved;
            }
            trial.moveToLast(heap);
        }
        return NONE;
    }

    public int told(int what) {
        if (what >= 10 && what < 10 + SEATS_MAX) {
            return worths.each[what - 10];
        }
        if (what >= 20 && what < 20 + HEAPS_MAX) {
            return isHeap(what - 20) ? heaps.papers[what - 20] : NONE;
        }
        if (what >= 30 && what < 30 + HEAPS_MAX) {
            return isHeap(what - 30) ? heaps.sets[what - 30] : NONE;
        }
        switch (what) {
            case 0:
                return heaps.count;
            case 1:
                return heaps.total();
            case 2:
                return seatCount;
            case 3:
                return text.length;
            case 4:
                return lines.count;
            default:
                return OUTSIDE;
        }
    }

    private static boolean isSet(int set) {
        return set >= 1 && set <= EVERYONE;
    }

    private static boolean isPapers(int papers) {
        return papers >= 1 && papers <= PAPERS_MAX;
    }

    private static boolean isWay(int way) {
        return way >= MOST && way <= MEND;
    }

    private static boolean isLaw(int law) {
        return law >= LAW_SOMEBODY && law <= LAW_EACH;
    }

    private boolean isHeap(int heap) {
        return heap >= 0 && heap < heaps.count && heap < HEAPS_MAX;
    }

    private boolean isCommittee(int committee) {
        return isSet(committee) && Integer.bitCount(committee) == seatCount;
    }

    /** 0 if a fraction can be told. */
    private int refusalOfShare(int heap, int i, int part) {
        if (!isHeap(heap)) {
            return UNKNOWN;
        }
        return i < 0 || i > seatCount || part < 0 || part > 1 ? OUTSIDE : 0;
    }

    private void runWay(int way, int seats) {
        if (way == BEST) {
            lawful.gather(lines, seats);
        }
        ways.run(way, heaps, seats);
    }

    private void gatherKept(int law) {
        lawful.gather(lines, seatCount);
        groups.gather(heaps, seatCount);
        lawful.keepThoseThatHold(groups, law);
    }

    /** What the first, second, third, fourth one that a paper has is worth to it. */
    private static final class Worths {
        final int[] each = new int[SEATS_MAX];
        // What so many are worth together; as long as bits of a set can ask for.
        final int[] together = new int[CANDIDATES + 1];

        Worths() {
            each[0] = WORTH_MAX;
            each[1] = 30;
            each[2] = 20;
            each[3] = 15;
            addUp();
        }

        private void addUp() {
            for (int i = 0; i < CANDIDATES; i++) {
                together[i + 1] = together[i] + (i < SEATS_MAX ? each[i] : 0);
            }
        }

        boolean fits(int i, int v) {
            int highest = i > 0 && i <= SEATS_MAX ? each[i - 1] : WORTH_MAX;
            int lowest = i >= 0 && i + 1 < SEATS_MAX ? each[i + 1] : 0;
            return v >= lowest && v <= highest;
        }

        void put(int i, int v) {
            if (i >= 0 && i < SEATS_MAX) {
                each[i] = v;
                addUp();
            }
        }
    }

    /** Papers in heaps, with a row more than the document's six for the false papers of TURN. */
    private static final class Heaps {
        final int[] sets = new int[HEAPS_MAX + 1];
        final int[] papers = new int[HEAPS_MAX + 1];
        final Worths worths;
        int count;

        Heaps(Worths shared) {
            worths = shared;
        }

        void append(int set, int number) {
            if (count >= 0 && count <= HEAPS_MAX) {
                sets[count] = set;
                papers[count] = number;
                count++;
            }
        }

        void copyOf(Heaps other) {
            for (int h = 0; h <= HEAPS_MAX; h++) {
                sets[h] = other.sets[h];
                papers[h] = other.papers[h];
            }
            count = other.count;
        }

        void moveToLast(int heap) {
            if (heap >= 0 && heap < count - 1 && count <= HEAPS_MAX + 1 && papers[heap] > 0) {
                papers[heap]--;
                papers[count - 1]++;
            }
        }

        boolean tells(int heap, int candidate) {
            return (sets[heap] >> candidate & 1) == 1;
        }

        int total() {
            int sum = 0;
            for (int h = 0; h < count; h++) {
                sum += papers[h];
            }
            return sum;
        }

        int telling(int candidate) {
            int sum = 0;
            for (int h = 0; h < count; h++) {
                if (tells(h, candidate)) {
                    sum += papers[h];
                }
            }
            return sum;
        }

        int worthOf(int set) {
            int sum = 0;
            for (int h = 0; h < count; h++) {
                sum += papers[h] * worths.together[Integer.bitCount(sets[h] & set & EVERYONE)];
            }
            return sum;
        }

        int wronged(int committee) {
            int sum = 0;
            for (int h = 0; h < count; h++) {
                if ((sets[h] & committee) == 0) {
                    sum += papers[h];
                }
            }
            return sum;
        }
    }

    /** The signs that were said, and where they stop being the beginning of a HALL. */
    private static final class Text {
        // States 1 to 8 stand behind a letter and are its number from 1 on, so that
        // a letter rises if its own number from 0 on is not below the state.
        static final int STUCK = -1, LINE_BEGINS = 0, BEHIND_COMPARISON = 9, BEHIND_DIGIT = 10;

        final int[] signs = new int[SIGNS_MAX];
        int length;

        void append(int sign) {
            if (length >= 0 && length < SIGNS_MAX) {
                signs[length] = sign;
                length++;
            }
        }

        static int step(int state, int sign) {
            if (state == BEHIND_DIGIT) {
                return sign == ';' ? LINE_BEGINS : STUCK;
            }
            if (state == BEHIND_COMPARISON) {
                return sign >= '0' && sign <= '4' ? BEHIND_DIGIT : STUCK;
            }
            if (sign >= 'a' + state && sign <= 'h') {
                return sign - 'a' + 1;
            }
            boolean compares = sign == '<' || sign == '>';
            return state != LINE_BEGINS && compares ? BEHIND_COMPARISON : STUCK;
        }

        int firstFault() {
            int state = LINE_BEGINS;
            for (int i = 0; i < length; i++) {
                state = step(state, signs[i]);
                if (state == STUCK) {
                    return i;
                }
            }
            return state == BEHIND_DIGIT ? NONE : length;
        }
    }

    /** The LINES of a HALL; none without one. */
    private static final class Lines {
        final int[] sets = new int[LINES_MAX];
        final int[] digits = new int[LINES_MAX];
        final boolean[] fewer = new boolean[LINES_MAX];
        int count;

        /** The text has no FAULT, so that each digit ends a LINE. */
        void read(Text text) {
            count = 0;
            int set = 0;
            boolean less = false;
            for (int i = 0; i < text.length; i++) {
                int sign = text.signs[i];
                if (sign >= 'a' && sign <= 'h') {
                    set |= 1 << sign - 'a';
                } else if (sign == '<' || sign == '>') {
                    less = sign == '<';
                } else if (sign != ';') {
                    append(set, less, sign - '0');
                    set = 0;
                }
            }
        }

        private void append(int set, boolean less, int digit) {
            if (count >= 0 && count < LINES_MAX) {
                sets[count] = set;
                fewer[count] = less;
                digits[count] = digit;
                count++;
            }
        }

        int firstBroken(int committee) {
            for (int i = 0; i < count; i++) {
                int inIt = Integer.bitCount(sets[i] & committee);
                if (fewer[i] ? inIt >= digits[i] : inIt <= digits[i]) {
                    return i;
                }
            }
            return NONE;
        }

        boolean allow(int committee) {
            return firstBroken(committee) == NONE;
        }
    }

    /** A row of COMMITTEES, from the least as bits on. */
    private static final class Committees {
        final int[] row = new int[COMMITTEES_MAX];
        int count;

        void gather(Lines lines, int seats) {
            count = 0;
            for (int set = 1; set <= EVERYONE; set++) {
                if (Integer.bitCount(set) == seats && lines.allow(set) && count < COMMITTEES_MAX) {
                    row[count] = set;
                    count++;
                }
            }
        }

        void keepThoseThatHold(Groups groups, int law) {
            int left = 0;
            for (int i = 0; i < count; i++) {
                groups.seekBreach(law, row[i]);
                if (groups.breachSize == NONE) {
                    row[left] = row[i];
                    left++;
                }
            }
            count = left;
        }

        int at(int i) {
            return i >= 0 && i < count && i < COMMITTEES_MAX ? row[i] : NONE;
        }

        /** 0: there is none. */
        int ofMostWorth(Heaps heaps) {
            int found = 0;
            int most = -1;
            for (int i = 0; i < count; i++) {
                int worth = heaps.worthOf(row[i]);
                if (worth > most) {
                    most = worth;
                    found = row[i];
                }
            }
            return found;
        }

        int leastWronged(Heaps heaps) {
            int found = NONE;
            int fewest = 0;
            for (int i = 0; i < count; i++) {
                int wronged = heaps.wronged(row[i]);
                if (found == NONE || wronged < fewest) {
                    fewest = wronged;
                    found = row[i];
                }
            }
            return found;
        }

        int closestTo(int committee) {
            int found = NONE;
            int fewest = 0;
            for (int i = 0; i < count; i++) {
                int others = Integer.bitCount(row[i] & ~committee);
                if (found == NONE || others < fewest) {
                    fewest = others;
                    found = row[i];
                }
            }
            return found;
        }
    }

    /**
     * A fraction for a paper of each HEAP, all over one lower number. That number is a product of
     * at most four numbers of papers, 600 each at most, so that no product here leaves a long.
     */
    private abstract static class Fractions {
        final long[] upper = new long[HEAPS_MAX + 1];
        long lower;

        void begin(int each) {
            for (int h = 0; h <= HEAPS_MAX; h++) {
                upper[h] = each;
            }
            lower = 1;
        }

        void widen(int by) {
            for (int h = 0; h <= HEAPS_MAX; h++) {
                upper[h] *= by;
            }
            lower *= by;
        }

        /** What all papers that tell a candidate have together, over the lower number. */
        long sumOf(Heaps heaps, int candidate) {
            long sum = 0;
            for (int h = 0; h < heaps.count; h++) {
                if (heaps.tells(h, candidate)) {
                    sum += upper[h] * heaps.papers[h];
                }
            }
            return sum;
        }

        long lowest(int heap, int part) {
            if (heap < 0 || heap > HEAPS_MAX) {
                return 0;
            }
            long whole = part == 0 ? upper[heap] : lower;
            long divisor = commonDivisor(lower, upper[heap]);
            return divisor == 0 ? whole : whole / divisor;
        }

        private static long commonDivisor(long a, long b) {
            for (int i = 0; i < EUCLID_MAX && b != 0; i++) {
                long rest = a % b;
                a = b;
                b = rest;
            }
            return a;
        }
    }

    /** What the papers bear. */
    private static final class Loads extends Fractions {
        int lightest(Heaps heaps, int taken) {
            int found = NONE;
            long foundWeight = 0;
            int foundPapers = 0;
            for (int c = 0; c < CANDIDATES; c++) {
                if ((taken >> c & 1) == 1) {
                    continue;
                }
                int papers = heaps.telling(c);
                long weight = lower + sumOf(heaps, c);
                boolean lighter = papers > 0
                    && (foundPapers == 0 || weight * foundPapers < foundWeight * papers);
                if (found == NONE || lighter) {
                    found = c;
                    foundWeight = weight;
                    foundPapers = papers;
                }
            }
            return found;
        }

        void bear(Heaps heaps, int candidate) {
            int papers = heaps.telling(candidate);
            if (papers == 0) {
                return;
            }
            long weight = lower + sumOf(heaps, candidate);
            widen(papers);
            for (int h = 0; h < heaps.count; h++) {
                if (heaps.tells(h, candidate)) {
                    upper[h] = weight;
                }
            }
        }
    }

    /** What the papers have left to pay with. */
    private static final class Purses extends Fractions {
        // RHO of the candidate that was priced last: rest by (payers times the lower number).
        private long rest;
        private int payers;

        int cheapest(Heaps heaps, int taken) {
            int found = NONE;
            long foundRest = 0;
            int foundPayers = 0;
            long cost = heaps.total() * lower;
            for (int c = 0; c < CANDIDATES; c++) {
                if ((taken >> c & 1) == 1 || heaps.telling(c) == 0 || sumOf(heaps, c) < cost) {
                    continue;
                }
                price(heaps, c);
                if (found == NONE || rest * foundPayers < foundRest * payers) {
                    found = c;
                    foundRest = rest;
                    foundPayers = payers;
                }
            }
            return found;
        }

        /** Each round, those whose purse is below what is asked give all, and more is asked of the others. */
        private void price(Heaps heaps, int candidate) {
            int telling = heaps.telling(candidate);
            long cost = heaps.total() * lower;
            rest = cost;
            payers = telling;
            for (int round = 0; round <= HEAPS_MAX; round++) {
                long given = 0;
                int givers = 0;
                for (int h = 0; h < heaps.count; h++) {
                    if (heaps.tells(h, candidate) && upper[h] * payers < rest) {
                        given += upper[h] * heaps.papers[h];
                        givers += heaps.papers[h];
                    }
                }
                if (telling - givers == payers) {
                    return;
                }
                rest = cost - given;
                payers = telling - givers;
            }
        }

        void pay(Heaps heaps, int candidate) {
            price(heaps, candidate);
            widen(payers);
            for (int h = 0; h < heaps.count; h++) {
                if (heaps.tells(h, candidate)) {
                    upper[h] = Math.max(0L, upper[h] - rest);
                }
            }
        }
    }

    /** The six WAYS, and whom the last one that was run chose. */
    private static final class Ways {
        final Loads loads = new Loads();
        final Purses purses = new Purses();
        final Committees lawful;
        final int[] order = new int[SEATS_MAX];
        int count;
        int chosen;
        int paidCount;

        Ways(Committees shared) {
            lawful = shared;
        }

        /** For BEST the lawful ones have to be gathered ahead. */
        void run(int way, Heaps heaps, int seats) {
            clear();
            switch (way) {
                case MOST:
                    byHeads(heaps, seats);
                    break;
                case GREEDY:
                    byWorth(heaps, seats);
                    break;
                case LOAD:
                    byLoads(heaps, seats);
                    break;
                case SHARE:
                    byPurses(heaps, seats, seats);
                    break;
                case BEST:
                    take(lawful.ofMostWorth(heaps));
                    break;
                default:
                    bySwaps(heaps, seats);
                    break;
            }
        }

        boolean holds(int candidate) {
            return (chosen >> candidate & 1) == 1;
        }

        int chosenAt(int i) {
            return i >= 0 && i < count && i < SEATS_MAX ? order[i] : NONE;
        }

        private void clear() {
            count = 0;
            chosen = 0;
        }

        private void add(int candidate) {
            if (candidate >= 0 && candidate < CANDIDATES && count < SEATS_MAX) {
                order[count] = candidate;
                count++;
                chosen |= 1 << candidate;
            }
        }

        private void take(int committee) {
            clear();
            for (int c = 0; c < CANDIDATES; c++) {
                if ((committee >> c & 1) == 1) {
                    add(c);
                }
            }
        }

        /** Goes on behind those that are chosen already. */
        private void byHeads(Heaps heaps, int seats) {
            for (int seat = count; seat < seats; seat++) {
                int found = NONE;
                int most = -1;
                for (int c = 0; c < CANDIDATES; c++) {
                    int papers = holds(c) ? -1 : heaps.telling(c);
                    if (papers > most) {
                        most = papers;
                        found = c;
                    }
                }
                add(found);
            }
        }

        private void byWorth(Heaps heaps, int seats) {
            for (int seat = 0; seat < seats; seat++) {
                int found = NONE;
                int most = -1;
                for (int c = 0; c < CANDIDATES; c++) {
                    int worth = holds(c) ? -1 : heaps.worthOf(chosen | 1 << c);
                    if (worth > most) {
                        most = worth;
                        found = c;
                    }
                }
                add(found);
            }
        }

        void byLoads(Heaps heaps, int choices) {
            clear();
            loads.begin(0);
            for (int i = 0; i < choices; i++) {
                int found = loads.lightest(heaps, chosen);
                loads.bear(heaps, found);
                add(found);
            }
        }

        void byPurses(Heaps heaps, int seats, int choices) {
            clear();
            purses.begin(seats);
            paidCount = 0;
            for (int i = 0; i < choices; i++) {
                int found = purses.cheapest(heaps, chosen);
                if (found == NONE) {
                    break;
                }
                purses.pay(heaps, found);
                add(found);
                paidCount++;
            }
            byHeads(heaps, choices);
        }

        private void bySwaps(Heaps heaps, int seats) {
            byWorth(heaps, seats);
            int committee = chosen;
            // Each swap makes more WORTH, so that no COMMITTEE comes twice.
            for (int i = 0; i < COMMITTEES_MAX; i++) {
                int swapped = bestSwap(heaps, committee);
                if (swapped == committee) {
                    break;
                }
                committee = swapped;
            }
            take(committee);
        }

        /** The committee itself if no swap makes more WORTH. */
        private static int bestSwap(Heaps heaps, int committee) {
            int found = committee;
            int most = heaps.worthOf(committee);
            for (int goes = 0; goes < CANDIDATES; goes++) {
                for (int comes = 0; comes < CANDIDATES; comes++) {
                    if ((committee >> goes & 1) == 0 || (committee >> comes & 1) == 1) {
                        continue;
                    }
                    int swapped = committee & ~(1 << goes) | 1 << comes;
                    int worth = heaps.worthOf(swapped);
                    if (worth > most) {
                        most = worth;
                        found = swapped;
                    }
                }
            }
            return found;
        }
    }

    /** All groups of HEAPS by their bits, and the BREACH that was sought last. */
    private static final class Groups {
        final int[] common = new int[1 << HEAPS_MAX];
        final int[] anyone = new int[1 << HEAPS_MAX];
        final int[] papers = new int[1 << HEAPS_MAX];
        // A group is OWED l seats for each l up to this.
        final int[] due = new int[1 << HEAPS_MAX];
        final int[] mostHad = new int[1 << HEAPS_MAX];
        final int[] sets = new int[HEAPS_MAX];
        int count;
        int breachSize;
        int breachGroup;

        /** Each group is a smaller one and its lowest HEAP, so that one pass upwards does. */
        void gather(Heaps heaps, int seats) {
            int total = heaps.total();
            count = 1 << Math.min(heaps.count, HEAPS_MAX);
            common[0] = EVERYONE;
            for (int h = 0; h < HEAPS_MAX; h++) {
                sets[h] = heaps.sets[h];
            }
            for (int group = 1; group < count; group++) {
                int smaller = group & group - 1;
                int heap = lowestHeap(group);
                common[group] = common[smaller] & heaps.sets[heap];
                anyone[group] = anyone[smaller] | heaps.sets[heap];
                papers[group] = papers[smaller] + heaps.papers[heap];
                int seatsOfPapers = total > 0 ? papers[group] * seats / total : 0;
                due[group] = Math.min(Integer.bitCount(common[group]), seatsOfPapers);
            }
        }

        void seekBreach(int law, int committee) {
            breachSize = NONE;
            breachGroup = NONE;
            if (law != LAW_TOGETHER) {
                countMostHad(committee);
            }
            for (int group = 1; group < count; group++) {
                int has = law == LAW_TOGETHER ? Integer.bitCount(anyone[group] & committee) : mostHad[group];
                boolean counts = law != LAW_SOMEBODY || has == 0;
                boolean wronged = counts && has < due[group];
                if (wronged && (breachSize == NONE || has + 1 < breachSize)) {
                    breachSize = has + 1;
                    breachGroup = group;
                }
            }
        }

        private static int lowestHeap(int group) {
            return Integer.bitCount((group & -group) - 1);
        }

        private void countMostHad(int committee) {
            for (int group = 1; group < count; group++) {
                int has = Integer.bitCount(sets[lowestHeap(group)] & committee);
                mostHad[group] = Math.max(mostHad[group & group - 1], has);
            }
        }
    }
}
