/** The linen cupboard as a parliament. DOC.md says, promise by promise, what each call answers. */
public final class LinenHouse {
    public static final int NONE = -1, BAD = -2, NOT = -3, FULL = -4;

    private static final int MOST_MEMBERS = 8, NIGHTS = 10, SHELVES = 6, SORTS = 3, ORDERS = 6, ONES = 3;
    private static final int MOST_FOLDS = 8, MOST_JARS = 6, MOST_SEEN = 8, NOTHING_SEEN = 3;
    private static final int MEMBER_TEXT = 0, TEXTS = 2, MEMBER_BYTES = 47, MOTION_BYTES = 30;
    private static final int SHEETS = 4, FORMS = 3, BYTES = 0, SHORTS = 1, MOST_ITEMS = 60, LOST = -1;
    private static final int NULL = 1, INDEX = 2, CAST = 3, STORE = 4, SIZE = 5;
    private static final int BY_WEIGHT = 2, WARM_ENOUGH = 2, SIXTEEN = 16;
    private static final int LEAST_INT = 1 << 31;
    private static final long LEAST_LONG = 1L << 63;

    /** What stands best, second, last in the orders abc, acb, bac, bca, cab, cba. */
    private static final int[] WANTED = {0, 1, 2, 0, 2, 1, 1, 0, 2, 1, 2, 0, 2, 0, 1, 2, 1, 0};
    /** The place of a, b, c in the same orders. */
    private static final int[] PLACE = {0, 1, 2, 0, 2, 1, 1, 0, 2, 2, 0, 1, 1, 2, 0, 2, 1, 0};
    private static final int[] DIGESTED_NIGHTS = {0, 4, 9};
    private static final int[] FACTORIAL = {1, 1, 2, 6, 24, 120, 720, 5040, 40320};

    private final Text[] texts = new Text[TEXTS];
    private final Roll roll = new Roll();
    private final Motions motions = new Motions();
    private final Folds folds = new Folds();
    private final Jars jars = new Jars();
    private final Sightings sightings = new Sightings();
    private final Chamber chamber = new Chamber(roll, motions, folds);
    private final Shares shares = new Shares(roll);
    private final Sheet[] sheets = new Sheet[SHEETS];
    /** Orders that are tried in place of those told. */
    private final int[] tried = new int[MOST_MEMBERS];
    private final int[] timesPleased = new int[MOST_MEMBERS];
    /** The members that a lift brings to the top shelf. */
    private final int[] raised = new int[2];
    /** How many orders make nothing (0), a, b, c (1 on) carry. */
    private final int[] alike = new int[ONES + 1];
    private int latestFinding = 0;

    public LinenHouse() {
        texts[0] = new Text(MEMBER_BYTES);
        texts[1] = new Text(MOTION_BYTES);
        for (int s = 0; s < SHEETS; s++) {
            sheets[s] = new Sheet();
        }
    }

    // ---- members, motions, foldings, jars

    public int type(int text, int b) {
        if (!within(text, TEXTS) || !within(b, 256)) {
            return BAD;
        }
        if (!texts[text].add(b)) {
            return FULL;
        }
        takeAgain(text);
        return texts[text].n;
    }

    public int wipe(int text) {
        if (!within(text, TEXTS)) {
            return BAD;
        }
        int had = texts[text].n;
        texts[text].n = 0;
        takeAgain(text);
        return had;
    }

    public int undo(int text) {
        if (!within(text, TEXTS)) {
            return BAD;
        }
        if (texts[text].n == 0) {
            return NOT;
        }
        texts[text].n--;
        takeAgain(text);
        return texts[text].n;
    }

    public int fault(int text) {
        if (!within(text, TEXTS)) {
            return BAD;
        }
        return text == MEMBER_TEXT ? roll.fault : motions.fault;
    }

    public int member(int member, int what) {
        if (!isMember(member) || !within(what, 5)) {
            return BAD;
        }
        if (what == 0) {
            return roll.sort[member];
        }
        return what == 1 ? roll.shelf[member] : wanted(roll.order[member], what - 2);
    }

    public int motion(int night, int what) {
        if (!isNight(night) || !within(what, 3)) {
            return BAD;
        }
        if (night >= motions.n) {
            return NONE;
        }
        if (what == 0) {
            return motions.first[night];
        }
        return what == 1 ? motions.other[night] : motions.how[night];
    }

    public int weight(int sort, int v) {
        if (!within(sort, SORTS) || !within(v, 10)) {
            return BAD;
        }
        int was = roll.weight[sort];
        roll.weight[sort] = v;
        return was;
    }

    public int fold(int night, int member, int shelf) {
        if (!isFold(night, member, shelf)) {
            return BAD;
        }
        return folds.add(night, member, shelf) ? folds.n : FULL;
    }

    public int jar(int night) {
        if (!isNight(night)) {
            return BAD;
        }
        return jars.add(night) ? jars.n : FULL;
    }

    public int back(int what) {
        if (!within(what, 2)) {
            return BAD;
        }
        int left = (what == 0 ? folds.n : jars.n) - 1;
        if (left < 0) {
            return NOT;
        }
        if (what == 0) {
            folds.n = left;
        } else {
            jars.n = left;
        }
        return left;
    }

    public int read(int s) {
        if (!within(s, SHEETS)) {
            return BAD;
        }
        Sheet sheet = sheets[s];
        if (sheet.form == LOST) {
            return found(NULL);
        }
        int many = 0;
        for (int i = 0; i + 2 < sheet.size; i += 3) {
            int night = sheet.item[i], member = sheet.item[i + 1], shelf = sheet.item[i + 2];
            if (!isFold(night, member, shelf) || !folds.add(night, member, shelf)) {
                break;
            }
            many++;
        }
        return many;
    }

    // ---- nights

    public int lies(int night, int member, int what) {
        if (!isNight(night) || !isMember(member) || !within(what, 3)) {
            return BAD;
        }
        if (what == 2) {
            return carriedAsTold(night) == NONE ? NONE : chamber.vote[member];
        }
        chamber.lay(night, NONE);
        int shelf = chamber.shelf[member];
        return what == 0 ? shelf : warmth(shelf, jars.has(night));
    }

    public int vote(int night, int what) {
        if (!isNight(night) || !within(what, 4)) {
            return BAD;
        }
        int carries = carriedAsTold(night);
        if (carries == NONE) {
            return NONE;
        }
        switch (what) {
            case 0: return chamber.firsts;
            case 1: return Math.abs(chamber.lead);
            case 2: return carries;
            default: return chamber.speaker;
        }
    }

    public int house(int night) {
        return isNight(night) ? carriedAsTold(lastPut(night)) : BAD;
    }

    public int told() {
        int many = 0;
        for (int night = 0; night < motions.n; night++) {
            if (carriedAsTold(night) != NONE && chamber.lead == 0) {
                many++;
            }
        }
        return many;
    }

    public int pleased() {
        for (int m = 0; m < roll.n; m++) {
            timesPleased[m] = 0;
        }
        for (int night = 0; night < motions.n; night++) {
            int carries = carriedAsTold(night);
            for (int m = 0; m < roll.n; m++) {
                if (chamber.votesFor(m) == carries) {
                    timesPleased[m]++;
                }
            }
        }
        int best = NONE;
        for (int m = 0; m < roll.n; m++) {
            if (best == NONE || timesPleased[m] > timesPleased[best]) {
                best = m;
            }
        }
        return best;
    }

    // ---- plans

    public int lift(int night, int i) {
        if (!isNight(night) || i < NONE || i > 1) {
            return BAD;
        }
        int many = findLift(night);
        return i == NONE ? many : raised[i];
    }

    public int agenda(int one) {
        if (!within(one, ONES)) {
            return BAD;
        }
        for (int pair = 0; pair < 3; pair++) {
            if (leftBy(pair) == one) {
                return pair;
            }
        }
        return NONE;
    }

    public long power(int member, int what) {
        if (!isMember(member) || !within(what, 2)) {
            return refusedLong(BAD);
        }
        return lowest(shares.turning(member), factorial(roll.n), what);
    }

    public int ring() {
        int ab = roll.lead(0, 1), bc = roll.lead(1, 2), ca = roll.lead(2, 0);
        if (ab > 0 && bc > 0 && ca > 0) {
            return 1;
        }
        return ab < 0 && bc < 0 && ca < 0 ? 2 : 0;
    }

    public int sham(int night, int member) {
        if (!isNight(night) || !isMember(member)) {
            return BAD;
        }
        int carries = carriedAsTold(night);
        if (carries == NONE) {
            return NONE;
        }
        int wish = rather(roll.order[member], chamber.first, chamber.other) ? chamber.first : chamber.other;
        if (carries == wish) {
            return 0;
        }
        chamber.vote[member] = 1 - chamber.vote[member];
        return chamber.tally() == wish ? 1 : 0;
    }

    // ---- seen, chance, evenings

    public int seen(int night, int one) {
        if (!isNight(night) || !within(one, NOTHING_SEEN + 1)) {
            return BAD;
        }
        return sightings.add(night, one == NOTHING_SEEN ? NONE : one) ? sightings.n : FULL;
    }

    public int forget() {
        int had = sightings.n;
        sightings.n = 0;
        return had;
    }

    public int never() {
        int bits = 0;
        for (int f = 0; f < folds.n; f++) {
            if (seenSo(roll.order, f)) {
                bits |= 1 << f;
            }
        }
        return bits;
    }

    public int would(int member) {
        return isMember(member) ? ordersSeenSo(member) : BAD;
    }

    public int ask(int member) {
        return isMember(member) ? nightToAsk(member, ordersSeenSo(member)) : BAD;
    }

    public long ajar(int c, int last, int one, int night, int what) {
        boolean asTold = within(c, SIXTEEN + 1) && isNight(last) && within(one, ONES) && isNight(night);
        if (!asTold || !within(what, 2)) {
            return refusedLong(BAD);
        }
        // Each motion carries something, so the last one alone makes the house, and its own jar alone bears on it.
        int put = lastPut(night);
        int chance = put <= last ? c : 0;
        int sixteenths = 0;
        if (chamber.carried(put, roll.order, true, NONE) == one) {
            sixteenths += chance;
        }
        if (chamber.carried(put, roll.order, false, NONE) == one) {
            sixteenths += SIXTEEN - chance;
        }
        return lowest(sixteenths, SIXTEEN, what);
    }

    public int evenings(int seed, int what) {
        if (!within(what, 2)) {
            return BAD;
        }
        drawOrders(seed);
        if (what == 1) {
            return carriedAsTried(lastPut(NIGHTS - 1));
        }
        int many = 0;
        for (int night = 0; night < motions.n; night++) {
            if (carriedAsTried(night) != carriedAsTold(night)) {
                many++;
            }
        }
        return many;
    }

    // ---- sheets

    public int sheet(int s, int form, int n) {
        if (!within(s, SHEETS) || !within(form, FORMS) || n > MOST_ITEMS) {
            return BAD;
        }
        if (n < 0) {
            return found(SIZE);
        }
        sheets[s].renew(form, n);
        return n;
    }

    public int lose(int s) {
        if (!within(s, SHEETS)) {
            return BAD;
        }
        if (sheets[s].form == LOST) {
            return found(NULL);
        }
        int had = sheets[s].size;
        sheets[s].renew(LOST, 0);
        return had;
    }

    public int put(int s, int form, int i, int v) {
        int refusal = itemRefusal(s, form, i);
        if (refusal != 0) {
            return refusal;
        }
        sheets[s].set(i, v);
        return 1;
    }

    public int get(int s, int form, int i) {
        return itemRefusal(s, form, i) != 0 ? LEAST_INT : sheets[s].item[i];
    }

    public int copy(int s, int i, int t, int j, int n) {
        if (!within(s, SHEETS) || !within(t, SHEETS)) {
            return BAD;
        }
        Sheet from = sheets[s], to = sheets[t];
        if (from.form == LOST || to.form == LOST) {
            return found(NULL);
        }
        if (from.form != to.form) {
            return found(STORE);
        }
        if (!from.holds(i, n) || !to.holds(j, n)) {
            return found(INDEX);
        }
        System.arraycopy(from.item, i, to.item, j, n);
        return 1;
    }

    public int write(int s) {
        if (!within(s, SHEETS)) {
            return BAD;
        }
        if (sheets[s].form == LOST) {
            return found(NULL);
        }
        int many = Math.min(sheets[s].size, NIGHTS);
        for (int night = 0; night < many; night++) {
            sheets[s].set(night, carriedAsTold(night));
        }
        return many;
    }

    public int count(int what) {
        switch (what) {
            case 0: return roll.n;
            case 1: return motions.n;
            case 2: return texts[0].n;
            case 3: return texts[1].n;
            case 4: return folds.n;
            case 5: return jars.n;
            case 6: return roll.weightOfAll();
            case 7: return sightings.n;
            case 8: return latestFinding;
            default: return BAD;
        }
    }

    public long digest() {
        long h = 17;
        for (int what = 0; what <= 7; what++) {
            h = 31 * h + count(what);
        }
        for (int text = 0; text < TEXTS; text++) {
            h = 31 * h + fault(text);
        }
        for (int m = 0; m < roll.n; m++) {
            h = digestMember(h, m);
        }
        for (int night = 0; night < NIGHTS; night++) {
            h = digestNight(h, night);
        }
        return digestPlans(h);
    }

    private long digestMember(long before, int m) {
        long h = before;
        for (int what = 0; what <= 4; what++) {
            h = 31 * h + member(m, what);
        }
        for (int night : DIGESTED_NIGHTS) {
            for (int what = 0; what <= 2; what++) {
                h = 31 * h + lies(night, m, what);
            }
            h = 31 * h + sham(night, m);
        }
        h = 31 * h + power(m, 0);
        h = 31 * h + power(m, 1);
        int orders = ordersSeenSo(m);
        h = 31 * h + orders;
        return 31 * h + nightToAsk(m, orders);
    }

    private long digestNight(long before, int night) {
        long h = before;
        for (int what = 0; what <= 2; what++) {
            h = 31 * h + motion(night, what);
        }
        for (int what = 0; what <= 3; what++) {
            h = 31 * h + vote(night, what);
        }
        h = 31 * h + house(night);
        h = 31 * h + lift(night, NONE);
        return 31 * h + lift(night, 0);
    }

    private long digestPlans(long before) {
        long h = 31 * before + told();
        h = 31 * h + pleased();
        for (int one = 0; one < ONES; one++) {
            h = 31 * h + agenda(one);
        }
        h = 31 * h + ring();
        h = 31 * h + never();
        h = 31 * h + ajar(5, 5, 1, 7, 0);
        h = 31 * h + ajar(5, 5, 1, 7, 1);
        h = 31 * h + evenings(7, 0);
        return 31 * h + evenings(7, 1);
    }

    // ---- what several calls share

    private static boolean within(int v, int end) {
        return v >= 0 && v < end;
    }

    private static boolean isNight(int night) {
        return within(night, NIGHTS);
    }

    private boolean isMember(int member) {
        return within(member, roll.n);
    }

    /** A fold may name a member that is not there: the text may yet bring it, or take it away. */
    private static boolean isFold(int night, int member, int shelf) {
        return isNight(night) && within(member, MOST_MEMBERS) && within(shelf, SHELVES);
    }

    private static long refusedLong(int refusal) {
        return LEAST_LONG - refusal;
    }

    private int found(int finding) {
        latestFinding = finding;
        return -10 - finding;
    }

    private static int wanted(int order, int place) {
        return within(order, ORDERS) && within(place, ONES) ? WANTED[order * ONES + place] : NONE;
    }

    private static boolean rather(int order, int one, int than) {
        boolean known = order >= 0 && order < ORDERS && one >= 0 && one < ONES && than >= 0 && than < ONES;
        return known && PLACE[order * ONES + one] < PLACE[order * ONES + than];
    }

    private static int warmth(int shelf, boolean jar) {
        int warm = 5 - shelf - (jar ? 3 : 0);
        return warm < 0 ? 0 : warm;
    }

    private static int factorial(int n) {
        return n >= 0 && n < FACTORIAL.length ? FACTORIAL[n] : 1;
    }

    /** The part above (what = 0) or below of a fraction in lowest terms. */
    private static long lowest(long above, long below, int what) {
        long divisor = above, rest = below;
        for (int step = 0; step < 100 && rest != 0; step++) {
            long next = divisor % rest;
            divisor = rest;
            rest = next;
        }
        long part = what == 0 ? above : below;
        return divisor == 0 ? part : part / divisor;
    }

    private void takeAgain(int text) {
        if (text == MEMBER_TEXT) {
            roll.take(texts[0]);
        } else {
            motions.take(texts[1]);
        }
    }

    private int itemRefusal(int s, int form, int i) {
        if (!within(s, SHEETS) || !within(form, FORMS)) {
            return BAD;
        }
        if (sheets[s].form == LOST) {
            return found(NULL);
        }
        if (sheets[s].form != form) {
            return found(CAST);
        }
        return within(i, sheets[s].size) ? 0 : found(INDEX);
    }

    private int carriedAsTold(int night) {
        return chamber.carried(night, roll.order, jars.has(night), NONE);
    }

    private int carriedAsTried(int night) {
        return chamber.carried(night, tried, jars.has(night), NONE);
    }

    /** The last night up to this one with a motion: as each carries something, it makes the house. */
    private int lastPut(int night) {
        return Math.min(night, motions.n - 1);
    }

    /** How many members are to be raised so that another one carries; raised tells which. */
    private int findLift(int night) {
        raised[0] = NONE;
        raised[1] = NONE;
        int carries = carriedRaising(night, NONE, NONE);
        if (carries == NONE) {
            return NONE;
        }
        for (int a = 0; a < roll.n; a++) {
            if (carriedRaising(night, a, a) != carries) {
                raised[0] = a;
                return 1;
            }
        }
        for (int a = 0; a < roll.n; a++) {
            for (int b = a + 1; b < roll.n; b++) {
                if (carriedRaising(night, a, b) != carries) {
                    raised[0] = a;
                    raised[1] = b;
                    return 2;
                }
            }
        }
        return NONE;
    }

    private int carriedRaising(int night, int a, int b) {
        if (!chamber.isPut(night)) {
            return NONE;
        }
        chamber.open(night);
        chamber.lay(night, NONE);
        chamber.raise(a);
        chamber.raise(b);
        chamber.lean(roll.order, jars.has(night));
        return chamber.tally();
    }

    /** What is left at the end when a pair (0: a b, 1: a c, 2: b c) is put to begin with. */
    private int leftBy(int pair) {
        int one = pair == 2 ? 1 : 0, other = pair == 0 ? 1 : 2;
        int third = 3 - one - other;
        return carriedAtFirst(carriedAtFirst(one, other), third);
    }

    private int carriedAtFirst(int one, int other) {
        if (roll.n == 0) {
            return NONE;
        }
        chamber.openPair(one, other);
        chamber.layAtFirst();
        chamber.lean(roll.order, false);
        return chamber.tally();
    }

    /** Whether all that was seen comes out so by these orders, without one of the folds. */
    private boolean seenSo(int[] order, int without) {
        for (int k = 0; k < sightings.n; k++) {
            int night = sightings.night[k];
            if (chamber.carried(night, order, jars.has(night), without) != sightings.one[k]) {
                return false;
            }
        }
        return true;
    }

    private int ordersSeenSo(int member) {
        int bits = 0;
        for (int order = 0; order < ORDERS; order++) {
            tryOrder(member, order);
            if (seenSo(tried, NONE)) {
                bits |= 1 << order;
            }
        }
        return bits;
    }

    private void tryOrder(int member, int order) {
        for (int m = 0; m < roll.n; m++) {
            tried[m] = m == member ? order : roll.order[m];
        }
    }

    /** The night that tells a member's orders, as bits, best apart. */
    private int nightToAsk(int member, int orders) {
        int best = 0, least = ORDERS + 1;
        for (int night = 0; night < NIGHTS; night++) {
            int greatest = mostAlike(night, member, orders);
            if (greatest < least) {
                least = greatest;
                best = night;
            }
        }
        return best;
    }

    /** The greatest number of a member's orders, as bits, by which like ones carry on a night. */
    private int mostAlike(int night, int member, int orders) {
        for (int k = 0; k <= ONES; k++) {
            alike[k] = 0;
        }
        boolean jar = jars.has(night);
        int greatest = 0;
        for (int order = 0; order < ORDERS; order++) {
            if ((orders >> order & 1) == 1) {
                tryOrder(member, order);
                int k = chamber.carried(night, tried, jar, NONE) + 1;
                if (within(k, alike.length)) {
                    alike[k]++;
                    greatest = Math.max(greatest, alike[k]);
                }
            }
        }
        return greatest;
    }

    private void drawOrders(int seed) {
        int lot = seed;
        for (int m = 0; m < roll.n; m++) {
            lot = 1103515245 * lot + 12345;
            tried[m] = (lot >>> 16) % ORDERS;
        }
    }

    /** The bytes of a text. */
    private static final class Text {
        final int[] bytes;
        int n = 0;

        Text(int most) {
            bytes = new int[Math.max(0, most)];
        }

        boolean add(int b) {
            if (n >= bytes.length) {
                return false;
            }
            bytes[n++] = b;
            return true;
        }

        int at(int i) {
            return i >= 0 && i < n ? bytes[i] : NONE;
        }

        boolean isLetter(int i) {
            return at(i) >= 'a' && at(i) <= 'c';
        }
    }

    /** The members, as their text tells them. */
    private static final class Roll {
        private static final int STEP = 6;
        int n = 0;
        int fault = NONE;
        final int[] sort = new int[MOST_MEMBERS];
        final int[] shelf = new int[MOST_MEMBERS];
        final int[] order = new int[MOST_MEMBERS];
        final int[] weight = {3, 2, 1};

        void take(Text t) {
            fault = findFault(t);
            n = 0;
            if (fault != NONE) {
                return;
            }
            for (int at = 0; at < t.n && n < MOST_MEMBERS; at += STEP) {
                sort[n] = sortOf(t.at(at));
                shelf[n] = t.at(at + 1) - '0';
                int second = t.at(at + 3), last = t.at(at + 4);
                order[n] = 2 * (t.at(at + 2) - 'a') + (second > last ? 1 : 0);
                n++;
            }
        }

        private static int findFault(Text t) {
            for (int i = 0; i < t.n; i++) {
                if (!fits(t, i)) {
                    return i;
                }
            }
            return t.n == 0 || t.n % STEP == STEP - 1 ? NONE : t.n;
        }

        private static boolean fits(Text t, int i) {
            int b = t.at(i);
            switch (i % STEP) {
                case 0: return i < STEP * MOST_MEMBERS && sortOf(b) != NONE;
                case 1: return b >= '0' && b < '0' + SHELVES;
                case 2: return t.isLetter(i);
                case 3: return t.isLetter(i) && b != t.at(i - 1);
                case 4: return t.isLetter(i) && b != t.at(i - 1) && b != t.at(i - 2);
                default: return b == ';';
            }
        }

        private static int sortOf(int b) {
            switch (b) {
                case 's': return 0;
                case 'b': return 1;
                case 'd': return 2;
                default: return NONE;
            }
        }

        int weightOf(int member) {
            int of = member >= 0 && member < n ? sort[member] : NONE;
            return of >= 0 && of < SORTS ? weight[of] : 0;
        }

        int weightOfAll() {
            int all = 0;
            for (int m = 0; m < n; m++) {
                all += weightOf(m);
            }
            return all;
        }

        /** By how many members more would rather have the one than the other. */
        int lead(int one, int other) {
            int lead = 0;
            for (int m = 0; m < n; m++) {
                lead += rather(order[m], one, other) ? 1 : -1;
            }
            return lead;
        }
    }

    /** The motions, as their text tells them. */
    private static final class Motions {
        private static final int STEP = 3;
        int n = 0;
        int fault = NONE;
        final int[] first = new int[NIGHTS];
        final int[] other = new int[NIGHTS];
        final int[] how = new int[NIGHTS];

        void take(Text t) {
            fault = findFault(t);
            n = 0;
            if (fault != NONE) {
                return;
            }
            for (int at = 0; at < t.n && n < NIGHTS; at += STEP) {
                first[n] = t.at(at) - 'a';
                other[n] = t.at(at + 1) - 'a';
                how[n] = t.at(at + 2) - '0';
                n++;
            }
        }

        private static int findFault(Text t) {
            for (int i = 0; i < t.n; i++) {
                if (!fits(t, i)) {
                    return i;
                }
            }
            return t.n % STEP == 0 ? NONE : t.n;
        }

        private static boolean fits(Text t, int i) {
            int b = t.at(i);
            switch (i % STEP) {
                case 0: return t.isLetter(i);
                case 1: return t.isLetter(i) && b != t.at(i - 1);
                default: return b == '1' || b == '2';
            }
        }
    }

    private static final class Folds {
        int n = 0;
        final int[] night = new int[MOST_FOLDS];
        final int[] member = new int[MOST_FOLDS];
        final int[] shelf = new int[MOST_FOLDS];

        boolean add(int ahead, int who, int where) {
            if (n >= MOST_FOLDS) {
                return false;
            }
            night[n] = ahead;
            member[n] = who;
            shelf[n] = where;
            n++;
            return true;
        }
    }

    private static final class Jars {
        int n = 0;
        final int[] night = new int[MOST_JARS];

        boolean add(int on) {
            if (n >= MOST_JARS) {
                return false;
            }
            night[n++] = on;
            return true;
        }

        boolean has(int on) {
            for (int k = 0; k < n; k++) {
                if (night[k] == on) {
                    return true;
                }
            }
            return false;
        }
    }

    /** What was seen to carry; NONE stands for nothing. */
    private static final class Sightings {
        int n = 0;
        final int[] night = new int[MOST_SEEN];
        final int[] one = new int[MOST_SEEN];

        boolean add(int on, int carried) {
            if (n >= MOST_SEEN) {
                return false;
            }
            night[n] = on;
            one[n] = carried;
            n++;
            return true;
        }
    }

    /** One vote: where all lie, how each leans, what carries. Its rows are used again for each vote. */
    private static final class Chamber {
        final Roll roll;
        final Motions motions;
        final Folds folds;
        int first = 0, other = 1;
        boolean byWeight = false;
        final int[] shelf = new int[MOST_MEMBERS];
        /** The night of the fold by which each came to its shelf. */
        private final int[] since = new int[MOST_MEMBERS];
        /** By how many more on a shelf would rather have the first. */
        private final int[] shelfLead = new int[SHELVES];
        /** 0: for the first, 1: for the other one. */
        final int[] vote = new int[MOST_MEMBERS];
        int speaker = NONE;
        int firsts = 0;
        /** By how much more the first one has. */
        int lead = 0;

        Chamber(Roll roll, Motions motions, Folds folds) {
            this.roll = roll;
            this.motions = motions;
            this.folds = folds;
        }

        boolean isPut(int night) {
            return roll.n > 0 && within(night, motions.n);
        }

        int carried(int night, int[] order, boolean jar, int without) {
            if (!isPut(night)) {
                return NONE;
            }
            open(night);
            lay(night, without);
            lean(order, jar);
            return tally();
        }

        void open(int night) {
            if (night >= 0 && night < motions.n) {
                first = motions.first[night];
                other = motions.other[night];
                byWeight = motions.how[night] == BY_WEIGHT;
            }
        }

        void openPair(int one, int another) {
            first = one;
            other = another;
            byWeight = false;
        }

        void layAtFirst() {
            for (int m = 0; m < roll.n; m++) {
                shelf[m] = roll.shelf[m];
                since[m] = 0;
            }
        }

        /** Folds may be told in any order: the one of the latest night holds, of one night the last told. */
        void lay(int night, int without) {
            layAtFirst();
            for (int f = 0; f < folds.n; f++) {
                int m = folds.member[f], ahead = folds.night[f];
                if (f != without && within(m, roll.n) && ahead <= night && ahead >= since[m]) {
                    shelf[m] = folds.shelf[f];
                    since[m] = ahead;
                }
            }
        }

        void raise(int member) {
            if (member >= 0 && member < roll.n) {
                shelf[member] = 0;
            }
        }

        void lean(int[] order, boolean jar) {
            for (int s = 0; s < SHELVES; s++) {
                shelfLead[s] = 0;
            }
            speaker = NONE;
            for (int m = 0; m < roll.n; m++) {
                vote[m] = rather(order[m], first, other) ? 0 : 1;
                if (within(shelf[m], SHELVES)) {
                    shelfLead[shelf[m]] += 1 - 2 * vote[m];
                }
                if (speaker == NONE || shelf[m] < shelf[speaker]) {
                    speaker = m;
                }
            }
            for (int m = 0; m < roll.n; m++) {
                int most = within(shelf[m], SHELVES) ? shelfLead[shelf[m]] : 0;
                if (warmth(shelf[m], jar) < WARM_ENOUGH && most != 0) {
                    vote[m] = most > 0 ? 0 : 1;
                }
            }
        }

        /** Counts the votes as they stand: what carries. */
        int tally() {
            firsts = 0;
            lead = 0;
            for (int m = 0; m < roll.n; m++) {
                int weight = byWeight ? roll.weightOf(m) : 1;
                firsts += 1 - vote[m];
                lead += vote[m] == 0 ? weight : -weight;
            }
            if (lead == 0 && speaker >= 0) {
                return votesFor(speaker);
            }
            return lead > 0 ? first : other;
        }

        int votesFor(int member) {
            return member >= 0 && member < roll.n && vote[member] == 0 ? first : other;
        }
    }

    /** Counts the orders of joining in which a member turns the scale. */
    private static final class Shares {
        private final Roll roll;
        /** The weight of each set of members, told as bits. */
        private final int[] weightOfSet = new int[1 << MOST_MEMBERS];

        Shares(Roll roll) {
            this.roll = roll;
        }

        int turning(int member) {
            weighSets();
            int all = roll.weightOfAll(), own = roll.weightOf(member), orders = 0;
            for (int ahead = 0; ahead < 1 << roll.n; ahead++) {
                int weight = weightOfSet[ahead];
                boolean joins = (ahead >> member & 1) == 0;
                if (joins && 2 * weight <= all && 2 * (weight + own) > all) {
                    int many = Integer.bitCount(ahead);
                    orders += factorial(many) * factorial(roll.n - 1 - many);
                }
            }
            return orders;
        }

        private void weighSets() {
            weightOfSet[0] = 0;
            for (int m = 0; m < roll.n; m++) {
                int bit = 1 << m;
                for (int set = 0; set < bit; set++) {
                    weightOfSet[bit + set] = weightOfSet[set] + roll.weightOf(m);
                }
            }
        }
    }

    /** A row of a form; items beyond its size are not of it. */
    private static final class Sheet {
        int form = LOST;
        int size = 0;
        final int[] item = new int[MOST_ITEMS];

        void renew(int newForm, int n) {
            form = newForm;
            size = Math.max(0, Math.min(n, MOST_ITEMS));
            for (int i = 0; i < MOST_ITEMS; i++) {
                item[i] = 0;
            }
        }

        boolean holds(int from, int n) {
            return from >= 0 && n >= 0 && n <= size && from <= size - n;
        }

        void set(int i, int v) {
            if (i < 0 || i >= size) {
                return;
            }
            if (form == BYTES) {
                item[i] = (byte) v;
            } else {
                item[i] = form == SHORTS ? (short) v : v;
            }
        }
    }
}
