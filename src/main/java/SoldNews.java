/** News sold to rivals who then deal. What it promises is told, number by number, in the document. */
public final class SoldNews {
    public static final int NONE = -1, UNKNOWN = -101, OUTSIDE = -102, STATE = -103, FULL = -104;

    private static final long PART_UNKNOWN = -1000000000000000001L;
    private static final long PART_OUTSIDE = -1000000000000000002L;
    private static final long PART_STATE = -1000000000000000003L;
    private static final long PART_NONE = -1000000000000000004L;

    private static final int MOST_LETTERS = 60, MOST_LETTER = 126;
    private static final int MOST_CASES = 4, MOST_BUYERS = 4, MOST_NEWS = 8;
    private static final int MOST_LIMIT = 3, MOST_FEE = 99;
    private static final int SIGNS = 4, SETS = 16, KINDS = 5;
    private static final int HUNDRED = 100, MOST_DAYS = 100, MOST_SALES = 40;
    private static final int FIGURES = 7, NO_STEP = 3, MOST_DEALINGS = 2401;
    private static final int FIRST_AT_REST = 10, LAST_AT_REST = 99;
    private static final int[] PLACES = {1, 7, 49, 343};

    private final Page page;
    private Market market;
    private Market draft;
    private boolean open;
    private final Buyers buyers;
    private final News[] all;
    private int newsCount;
    private int sales;
    private final Hearing hearing;
    private final Deals deals;
    private final Seed draws;

    // What is DEALT and MADE is kept for each news and set, until the market or a buyer is another one.
    private final boolean[] settled;
    private final int[] dealt;
    private final long[] worths;

    public SoldNews() {
        page = new Page();
        market = new Market();
        draft = new Market();
        all = new News[MOST_NEWS];
        hearing = new Hearing();
        deals = new Deals();
        buyers = deals.buyers;
        draws = new Seed();
        settled = new boolean[MOST_NEWS * SETS];
        dealt = new int[MOST_NEWS * SETS * SIGNS];
        worths = new long[MOST_NEWS * SETS * MOST_BUYERS];
    }

    // ---- the market

    public int letters(long w) {
        int more = Page.lettersIn(w);
        if (more < 0) {
            return OUTSIDE;
        }
        return page.append(w, more) ? page.size : FULL;
    }

    public int blank() {
        int had = page.size;
        page.size = 0;
        return had;
    }

    public int fault() {
        page.readInto(draft);
        return page.place;
    }

    public int market() {
        if (!page.readInto(draft)) {
            return STATE;
        }
        Market gone = market;
        market = draft;
        draft = gone;
        open = true;
        page.size = 0;
        unsettle();
        return market.cases;
    }

    public int told(int c, int what) {
        if (!open || c != NONE && !isCase(c)) {
            return UNKNOWN;
        }
        if (what != 0 && what != 1) {
            return OUTSIDE;
        }
        if (c == NONE) {
            return what == 0 ? market.base : market.slope;
        }
        return what == 0 ? market.weightOf(c) : market.valueOf(c);
    }

    public int buyer(int limit, int fee) {
        if (!Buyers.isLimit(limit) || !Buyers.isFee(fee)) {
            return OUTSIDE;
        }
        int number = buyers.append(limit, fee);
        if (number == NONE) {
            return FULL;
        }
        unsettle();
        return number;
    }

    public int change(int buyer, int what, int v) {
        if (!buyers.has(buyer)) {
            return UNKNOWN;
        }
        boolean inside = what == 0 && Buyers.isLimit(v) || what == 1 && Buyers.isFee(v);
        if (!inside) {
            return OUTSIDE;
        }
        unsettle();
        return what == 0 ? buyers.swapLimit(buyer, v) : buyers.swapFee(buyer, v);
    }

    // ---- news

    public int news(int kind, int n) {
        if (kind < 0 || kind >= KINDS || n < 0 || n > News.mostOf(kind)) {
            return OUTSIDE;
        }
        if (newsCount < 0 || newsCount >= all.length) {
            return FULL;
        }
        all[newsCount] = News.ofKind(kind, n);
        return newsCount++;
    }

    public int as(int news, int kind) {
        News it = newsAt(news);
        if (it == null) {
            return UNKNOWN;
        }
        if (kind < 0 || kind >= KINDS) {
            return OUTSIDE;
        }
        return it.isOf(kind) ? news : NONE;
    }

    public long heard(int news, int sign, int part) {
        int no = refusal(news, true, isSign(sign) && isPart(part));
        if (no != 0) {
            return refusedPart(no);
        }
        hearing.take(market, newsAt(news), sign);
        return partOf(hearing.weight, market.wholeWeight(), part);
    }

    public long edge(int news, int sign, int part) {
        int no = refusal(news, true, isSign(sign) && isPart(part));
        if (no != 0) {
            return refusedPart(no);
        }
        hearing.take(market, newsAt(news), sign);
        return hearing.isNever() ? PART_NONE : partOf(hearing.edge, hearing.weight, part);
    }

    // ---- dealings

    public int rests(int news, int set, int sign, int what) {
        boolean asks = what == 0 || what == 1 || what >= FIRST_AT_REST && what <= LAST_AT_REST;
        int no = refusal(news, true, isSet(set) && isSign(sign) && asks);
        if (no != 0) {
            return no;
        }
        if (what == 1) {
            settle(news, set);
            return dealtFor(news, set, sign);
        }
        hearing.take(market, newsAt(news), sign);
        if (hearing.isNever()) {
            return NONE;
        }
        deals.begin(hearing, market.slope, set);
        return deals.look(what);
    }

    public long makes(int news, int sign, int dealings, int buyer, int part) {
        boolean inside = isSign(sign) && buyers.canDeal(dealings) && isPart(part);
        int no = refusal(news, buyers.has(buyer), inside);
        if (no != 0) {
            return refusedPart(no);
        }
        hearing.take(market, newsAt(news), sign);
        if (hearing.isNever()) {
            return PART_NONE;
        }
        deals.begin(hearing, market.slope, 0);
        return partOf(deals.madeBy(dealings, buyer), hearing.weight, part);
    }

    public long worth(int news, int set, int buyer, int part) {
        int no = refusal(news, buyers.has(buyer), isSet(set) && isPart(part));
        if (no != 0) {
            return refusedPart(no);
        }
        settle(news, set);
        return partOf(worthOf(news, set, buyer), market.wholeWeight(), part);
    }

    // ---- selling

    public int whom(int news, int how) {
        int no = refusal(news, true, isHow(how));
        if (no != 0) {
            return no;
        }
        if (sales >= MOST_SALES) {
            return STATE;
        }
        sales++;
        settleAll(news);
        return bestSet(news, how);
    }

    public int plainly(int how) {
        if (!open) {
            return STATE;
        }
        if (!isHow(how)) {
            return OUTSIDE;
        }
        if (sales >= MOST_SALES) {
            return STATE;
        }
        sales++;
        int best = NONE;
        long most = 0;
        for (int news = 0; news < newsCount; news++) {
            settleAll(news);
            long taken = takings(news, bestSet(news, how), how);
            if (best == NONE || taken > most) {
                best = news;
                most = taken;
            }
        }
        return best;
    }

    public int more(int news, int set) {
        int no = refusal(news, true, isSet(set));
        if (no != 0) {
            return no;
        }
        settleAll(news);
        return oneMore(news, set);
    }

    public long pledge(int news, int set, int part) {
        int no = refusal(news, true, isSet(set) && isPart(part));
        if (no != 0) {
            return refusedPart(no);
        }
        settleAll(news);
        int j = oneMore(news, set);
        long above = j == NONE ? 0 : worthOf(news, set | bit(j), j);
        return partOf(above, market.wholeWeight(), part);
    }

    public int on(int news, int set, int what) {
        int no = refusal(news, true, isSet(set) && (what == 0 || what == 1));
        if (no != 0) {
            return no;
        }
        settleAll(news);
        for (int i = 0; i < buyers.count; i++) {
            int j = isIn(set, i) ? toldBy(news, set, i) : NONE;
            if (j != NONE) {
                return what == 0 ? i : j;
            }
        }
        return NONE;
    }

    public long shut(int news, int buyer, int part) {
        int no = refusal(news, buyers.has(buyer), isPart(part));
        if (no != 0) {
            return refusedPart(no);
        }
        settle(news, bit(buyer));
        settle(news, buyers.everybody());
        long alone = worthOf(news, bit(buyer), buyer);
        long among = worthOf(news, buyers.everybody(), buyer);
        return partOf(alone - among, market.wholeWeight(), part);
    }

    public long wrongly(int news, int set, int sign, int c, int buyer, int part) {
        boolean inside = isSet(set) && isSign(sign) && isPart(part);
        int no = refusal(news, buyers.has(buyer) && isCase(c), inside);
        if (no != 0) {
            return refusedPart(no);
        }
        settle(news, set);
        int dealings = dealtFor(news, set, sign);
        if (dealings == NONE) {
            return PART_NONE;
        }
        hearing.takeCase(market, newsAt(news), c);
        deals.begin(hearing, market.slope, set);
        return partOf(deals.madeBy(dealings, buyer), hearing.weight, part);
    }

    public int shown(int news, int set) {
        int no = refusal(news, true, isSet(set));
        if (no != 0) {
            return no;
        }
        settle(news, set);
        int unlike = 0;
        for (int sign = 0; sign < SIGNS; sign++) {
            if (dealtFor(news, set, sign) != NONE && !looksLikeEarlier(news, set, sign)) {
                unlike++;
            }
        }
        return unlike;
    }

    public long thought(int news, int set, int sign, int part) {
        int no = refusal(news, true, isSet(set) && isSign(sign) && isPart(part));
        if (no != 0) {
            return refusedPart(no);
        }
        settle(news, set);
        if (dealtFor(news, set, sign) == NONE) {
            return PART_NONE;
        }
        long value = 0;
        long weight = 0;
        for (int other = 0; other < SIGNS; other++) {
            if (lookAlike(news, set, sign, other)) {
                hearing.take(market, newsAt(news), other);
                value += hearing.value;
                weight += hearing.weight;
            }
        }
        return partOf(value, weight, part);
    }

    public long bound(int part) {
        if (!open) {
            return PART_STATE;
        }
        if (!isPart(part)) {
            return PART_OUTSIDE;
        }
        return partOf(market.mostFor(buyers.allLimits()), market.weights, part);
    }

    public int run(int news, int set, int seed, int days, int what) {
        boolean inside = isSet(set) && seed >= 0 && days >= 1 && days <= MOST_DAYS && what >= 0 && what <= 2;
        int no = refusal(news, true, inside);
        if (no != 0) {
            return no;
        }
        News it = newsAt(news);
        if (it == null) {
            return UNKNOWN;
        }
        settle(news, set);
        draws.now = seed;
        int steps = 0;
        int still = 0;
        for (int day = 0; day < days; day++) {
            int c = market.caseAt(draws.draw(market.weights));
            int sign = it.hears(c, market.cases, draws);
            int sizes = buyers.sizesOf(dealtFor(news, set, sign));
            steps += sizes;
            still += sizes == 0 ? 1 : 0;
        }
        return what == 0 ? (int) draws.now : what == 1 ? steps : still;
    }

    // ---- what is told

    public int count(int what) {
        switch (what) {
            case 0:
                return open ? market.cases : 0;
            case 1:
                return buyers.count;
            case 2:
                return newsCount;
            case 3:
                return page.size;
            case 4:
                return sales;
            default:
                return OUTSIDE;
        }
    }

    public long digest() {
        long h = 359;
        if (open) {
            h = market.mixedInto(h);
        }
        h = buyers.mixedInto(h);
        for (int news = 0; news < newsCount; news++) {
            h = newsMixedInto(h, news);
        }
        if (open) {
            h = mixed(mixed(h, bound(0)), bound(1));
        }
        h = page.mixedInto(h);
        for (int what = 0; what < 5; what++) {
            h = mixed(h, count(what));
        }
        return h;
    }

    private long newsMixedInto(long h, int news) {
        News it = newsAt(news);
        if (it == null) {
            return h;
        }
        long sum = mixed(mixed(h, it.kind), it.n);
        if (!open) {
            return sum;
        }
        settle(news, buyers.everybody());
        for (int sign = 0; sign < SIGNS; sign++) {
            sum = mixed(sum, dealtFor(news, buyers.everybody(), sign));
        }
        return sum;
    }

    private static long mixed(long h, long it) {
        return 31 * h + it;
    }

    // ---- what may be asked

    /** 0, or the first refusal of a call on news: the news, the market, what else is named, what is outside. */
    private int refusal(int news, boolean named, boolean inside) {
        if (newsAt(news) == null) {
            return UNKNOWN;
        }
        if (!open) {
            return STATE;
        }
        if (!named) {
            return UNKNOWN;
        }
        return inside ? 0 : OUTSIDE;
    }

    private static long refusedPart(int no) {
        if (no == UNKNOWN) {
            return PART_UNKNOWN;
        }
        return no == STATE ? PART_STATE : PART_OUTSIDE;
    }

    private News newsAt(int news) {
        return news >= 0 && news < newsCount && news < all.length ? all[news] : null;
    }

    private boolean isCase(int c) {
        return c >= 0 && c < market.cases;
    }

    private boolean isSet(int set) {
        return set >= 0 && set <= buyers.everybody();
    }

    private static boolean isSign(int sign) {
        return sign >= 0 && sign < SIGNS;
    }

    private static boolean isPart(int part) {
        return part == 0 || part == 1;
    }

    private static boolean isHow(int how) {
        return how == 0 || how == 1;
    }

    private static boolean isIn(int set, int buyer) {
        return (set >> buyer & 1) == 1;
    }

    private static int bit(int buyer) {
        return 1 << buyer;
    }

    // ---- fractions

    private static long partOf(long above, long below, int part) {
        long common = commonDivisor(Math.abs(above), below);
        if (common < 1) {
            return PART_NONE;
        }
        return (part == 0 ? above : below) / common;
    }

    private static long commonDivisor(long a, long b) {
        long more = a;
        long less = b;
        // Two turns halve what is left at least, so that no long needs as many.
        for (int turn = 0; turn < 200 && less != 0; turn++) {
            long rest = more % less;
            more = less;
            less = rest;
        }
        return more;
    }

    // ---- what is dealt, and made by it

    private void unsettle() {
        for (int row = 0; row < settled.length; row++) {
            settled[row] = false;
        }
    }

    private void settleAll(int news) {
        for (int set = 0; set <= buyers.everybody() && set < SETS; set++) {
            settle(news, set);
        }
    }

    /** Ahead of every look at what is dealt, or what it is worth, to the set. */
    private void settle(int news, int set) {
        News it = newsAt(news);
        int row = news * SETS + set;
        if (it == null || !isSet(set) || row < 0 || row >= settled.length || settled[row]) {
            return;
        }
        settled[row] = true;
        keepWorths(row, true);
        for (int sign = 0; sign < SIGNS; sign++) {
            int at = row * SIGNS + sign;
            hearing.take(market, it, sign);
            int dealings = NONE;
            if (!hearing.isNever()) {
                deals.begin(hearing, market.slope, set);
                dealings = deals.look(1);
                deals.deal(dealings);
                keepWorths(row, false);
            }
            if (at >= 0 && at < dealt.length) {
                dealt[at] = dealings;
            }
        }
    }

    /** A hearing's weight is a part of the whole weight, so that what is made may just be added up. */
    private void keepWorths(int row, boolean afresh) {
        for (int buyer = 0; buyer < MOST_BUYERS; buyer++) {
            int at = row * MOST_BUYERS + buyer;
            if (at >= 0 && at < worths.length) {
                worths[at] = afresh ? 0 : worths[at] + deals.gain(buyer, 0);
            }
        }
    }

    private int dealtFor(int news, int set, int sign) {
        int at = (news * SETS + set) * SIGNS + sign;
        return at >= 0 && at < dealt.length ? dealt[at] : NONE;
    }

    private long worthOf(int news, int set, int buyer) {
        int at = (news * SETS + set) * MOST_BUYERS + buyer;
        return at >= 0 && at < worths.length ? worths[at] : 0;
    }

    // ---- what sells

    private int bestSet(int news, int how) {
        int best = 0;
        long most = 0;
        for (int set = 1; set <= buyers.everybody() && set < SETS; set++) {
            long taken = takings(news, set, how);
            if (taken > most) {
                best = set;
                most = taken;
            }
        }
        return best;
    }

    private long takings(int news, int set, int how) {
        long sum = 0;
        long least = 0;
        int size = 0;
        for (int buyer = 0; buyer < buyers.count; buyer++) {
            if (isIn(set, buyer)) {
                long asked = worthOf(news, set, buyer);
                least = size == 0 ? asked : Math.min(least, asked);
                sum += asked;
                size++;
            }
        }
        return how == 0 ? sum : least * size;
    }

    private int oneMore(int news, int set) {
        int best = NONE;
        long most = 0;
        for (int j = 0; j < buyers.count; j++) {
            long pays = isIn(set, j) ? 0 : worthOf(news, set | bit(j), j);
            if (pays > most) {
                best = j;
                most = pays;
            }
        }
        return best;
    }

    private int toldBy(int news, int set, int i) {
        long silent = worthOf(news, set, i);
        for (int j = 0; j < buyers.count; j++) {
            int larger = set | bit(j);
            if (larger != set && worthOf(news, larger, i) + worthOf(news, larger, j) > silent) {
                return j;
            }
        }
        return NONE;
    }

    private boolean looksLikeEarlier(int news, int set, int sign) {
        for (int earlier = 0; earlier < sign; earlier++) {
            if (lookAlike(news, set, sign, earlier)) {
                return true;
            }
        }
        return false;
    }

    private boolean lookAlike(int news, int set, int sign, int other) {
        int here = dealtFor(news, set, sign);
        int there = dealtFor(news, set, other);
        return here != NONE && there != NONE && buyers.stepsOf(here) == buyers.stepsOf(there);
    }

    /** The letters that come, and how they are read. */
    private static final class Page {
        private final int[] letters = new int[MOST_LETTERS];
        private int size;
        private int place;

        /** How many letters w tells, or NONE if it is not as told. */
        static int lettersIn(long w) {
            int letters = 0;
            for (int i = 0; i < 8; i++) {
                int letter = letterOf(w, i);
                if (letter > MOST_LETTER || letter != 0 && letters < i) {
                    return NONE;
                }
                letters += letter != 0 ? 1 : 0;
            }
            return letters;
        }

        private static int letterOf(long w, int i) {
            return (int) (w >>> 8 * i & 255);
        }

        boolean append(long w, int more) {
            if (size < 0 || more > letters.length - size) {
                return false;
            }
            for (int i = 0; i < more && size < letters.length; i++) {
                letters[size] = letterOf(w, i);
                size++;
            }
            return true;
        }

        /** Whether all of the page is a market; the place is then, or else, behind what a market can begin with. */
        boolean readInto(Market draft) {
            place = 0;
            draft.cases = 0;
            draft.weights = 0;
            if (!reads('p')) {
                return false;
            }
            draft.base = readNumber(3, '0');
            if (draft.base == NONE || !reads('s')) {
                return false;
            }
            draft.slope = readNumber(1, '1');
            if (draft.slope == NONE) {
                return false;
            }
            for (int c = 0; c < MOST_CASES && reads(';'); c++) {
                int weight = readNumber(2, '1');
                if (weight == NONE || !reads(':')) {
                    return false;
                }
                int value = readNumber(3, '0');
                if (value == NONE || !draft.append(weight, value)) {
                    return false;
                }
            }
            return draft.cases > 0 && place == size;
        }

        private int letterHere() {
            return place >= 0 && place < size && place < letters.length ? letters[place] : 0;
        }

        private boolean reads(char letter) {
            boolean is = letterHere() == letter;
            place += is ? 1 : 0;
            return is;
        }

        private int readNumber(int longest, char leastFirst) {
            int number = NONE;
            for (int i = 0; i < longest; i++) {
                int letter = letterHere();
                if (letter < (i == 0 ? leastFirst : '0') || letter > '9') {
                    return number;
                }
                number = (i == 0 ? 0 : number * 10) + letter - '0';
                place++;
            }
            return number;
        }

        long mixedInto(long h) {
            long sum = h;
            for (int i = 0; i < size && i < letters.length; i++) {
                sum = mixed(sum, letters[i]);
            }
            return sum;
        }
    }

    /** A market that was read. */
    private static final class Market {
        private int base;
        private int slope;
        private int cases;
        private int weights;
        private final int[] weight = new int[MOST_CASES];
        private final int[] value = new int[MOST_CASES];

        boolean append(int w, int v) {
            if (cases < 0 || cases >= weight.length || cases >= value.length) {
                return false;
            }
            weight[cases] = w;
            value[cases] = v;
            weights += w;
            cases++;
            return true;
        }

        int weightOf(int c) {
            return c >= 0 && c < cases && c < weight.length ? weight[c] : 0;
        }

        int valueOf(int c) {
            return c >= 0 && c < cases && c < value.length ? value[c] : 0;
        }

        /** What all weights of all hearings are together. */
        long wholeWeight() {
            return (long) weights * News.wholeOf(cases);
        }

        int caseAt(int draw) {
            int below = 0;
            for (int c = 0; c < cases; c++) {
                below += weightOf(c);
                if (draw < below) {
                    return c;
                }
            }
            return 0;
        }

        long mostFor(int limits) {
            long sum = 0;
            for (int c = 0; c < cases; c++) {
                long most = 0;
                for (int x = -limits; x <= limits; x++) {
                    most = Math.max(most, (long) x * (valueOf(c) - base - slope * x));
                }
                sum += weightOf(c) * most;
            }
            return sum;
        }

        long mixedInto(long h) {
            long sum = mixed(mixed(h, base), slope);
            for (int c = 0; c < cases; c++) {
                sum = mixed(mixed(sum, weightOf(c)), valueOf(c));
            }
            return sum;
        }
    }

    /** News that tell nothing, and what all news have in common. */
    private static class News {
        final int kind;
        final int n;

        News(int kind, int n) {
            this.kind = kind;
            this.n = n;
        }

        static News ofKind(int kind, int n) {
            switch (kind) {
                case 1:
                    return new Plain(kind, n);
                case 2:
                    return new Part(kind, n);
                case 3:
                    return new Blur(kind, n);
                case 4:
                    return new Late(kind, n);
                default:
                    return new News(kind, n);
            }
        }

        static int mostOf(int kind) {
            return kind == 3 || kind == 4 ? HUNDRED : 255;
        }

        /** Hundredths, shared among all other cases without a rest. */
        static int wholeOf(int cases) {
            return HUNDRED * Math.max(1, cases - 1);
        }

        final boolean isOf(int other) {
            switch (other) {
                case 0:
                    return true;
                case 1:
                    return this instanceof Plain;
                case 2:
                    return this instanceof Part;
                case 3:
                    return this instanceof Blur;
                case 4:
                    return this instanceof Late;
                default:
                    return false;
            }
        }

        int signOf(int c) {
            return 0;
        }

        /** Of the whole, how often the sign is heard in the case. */
        int share(int c, int sign, int cases) {
            return sign == signOf(c) ? wholeOf(cases) : 0;
        }

        int hears(int c, int cases, Seed draws) {
            return signOf(c);
        }

        /** By how many hundredths the base is nearer to the value when the news are heard. */
        int nearer() {
            return 0;
        }
    }

    private static class Plain extends News {
        Plain(int kind, int n) {
            super(kind, n);
        }

        int signOf(int c) {
            return c;
        }
    }

    private static final class Part extends News {
        Part(int kind, int n) {
            super(kind, n);
        }

        int signOf(int c) {
            return n >> 2 * c & 3;
        }
    }

    private static final class Blur extends Plain {
        Blur(int kind, int n) {
            super(kind, n);
        }

        int share(int c, int sign, int cases) {
            if (cases < 2) {
                return sign == c ? wholeOf(cases) : 0;
            }
            if (sign >= cases) {
                return 0;
            }
            return sign == c ? (HUNDRED - n) * (cases - 1) : n;
        }

        int hears(int c, int cases, Seed draws) {
            if (cases < 2 || draws.draw(HUNDRED) >= n) {
                return c;
            }
            int other = draws.draw(cases - 1);
            return other < c ? other : other + 1;
        }
    }

    private static final class Late extends Plain {
        Late(int kind, int n) {
            super(kind, n);
        }

        int nearer() {
            return n;
        }
    }

    /** What one thinks who heard a sign: sums over the cases by weights, to be divided by the weight. */
    private static final class Hearing {
        private long weight;
        private long value;
        private long edge;

        void take(Market market, News news, int sign) {
            weight = 0;
            value = 0;
            edge = 0;
            if (news == null) {
                return;
            }
            for (int c = 0; c < market.cases; c++) {
                long often = (long) market.weightOf(c) * news.share(c, sign, market.cases);
                weight += often;
                value += often * market.valueOf(c);
            }
            narrow(market, news);
        }

        void takeCase(Market market, News news, int c) {
            weight = HUNDRED;
            value = weight * market.valueOf(c);
            edge = 0;
            if (news != null) {
                narrow(market, news);
            }
        }

        /** Leaves no rest: where a base comes nearer, all that is heard is heard in whole hundreds. */
        private void narrow(Market market, News news) {
            edge = (value - weight * market.base) * (HUNDRED - news.nearer()) / HUNDRED;
        }

        boolean isNever() {
            return weight == 0;
        }
    }

    /** Those who may deal. */
    private static final class Buyers {
        private final int[] limit = new int[MOST_BUYERS];
        private final int[] fee = new int[MOST_BUYERS];
        private int count;

        static boolean isLimit(int v) {
            return v >= 1 && v <= MOST_LIMIT;
        }

        static boolean isFee(int v) {
            return v >= 0 && v <= MOST_FEE;
        }

        /** x of a buyer by the number of dealings. */
        static int stepOf(int dealings, int buyer) {
            if (dealings < 0 || buyer < 0 || buyer >= PLACES.length || PLACES[buyer] < 1) {
                return 0;
            }
            return dealings / PLACES[buyer] % FIGURES - NO_STEP;
        }

        boolean has(int buyer) {
            return buyer >= 0 && buyer < count;
        }

        int everybody() {
            return (1 << count) - 1;
        }

        int append(int newLimit, int newFee) {
            if (count < 0 || count >= limit.length || count >= fee.length) {
                return NONE;
            }
            limit[count] = newLimit;
            fee[count] = newFee;
            return count++;
        }

        int limitOf(int buyer) {
            return buyer >= 0 && buyer < count && buyer < limit.length ? limit[buyer] : 0;
        }

        int feeOf(int buyer) {
            return buyer >= 0 && buyer < count && buyer < fee.length ? fee[buyer] : 0;
        }

        int swapLimit(int buyer, int v) {
            int was = limitOf(buyer);
            if (buyer >= 0 && buyer < count && buyer < limit.length) {
                limit[buyer] = v;
            }
            return was;
        }

        int swapFee(int buyer, int v) {
            int was = feeOf(buyer);
            if (buyer >= 0 && buyer < count && buyer < fee.length) {
                fee[buyer] = v;
            }
            return was;
        }

        int allLimits() {
            int sum = 0;
            for (int buyer = 0; buyer < count; buyer++) {
                sum += limitOf(buyer);
            }
            return sum;
        }

        boolean canDeal(int dealings) {
            if (dealings < 0) {
                return false;
            }
            int above = dealings;
            for (int buyer = 0; buyer < count; buyer++) {
                if (Math.abs(above % FIGURES - NO_STEP) > limitOf(buyer)) {
                    return false;
                }
                above /= FIGURES;
            }
            return above == 0;
        }

        int stepsOf(int dealings) {
            int sum = 0;
            for (int buyer = 0; buyer < count; buyer++) {
                sum += stepOf(dealings, buyer);
            }
            return sum;
        }

        int sizesOf(int dealings) {
            int sum = 0;
            for (int buyer = 0; buyer < count; buyer++) {
                sum += Math.abs(stepOf(dealings, buyer));
            }
            return sum;
        }

        long mixedInto(long h) {
            long sum = h;
            for (int buyer = 0; buyer < count; buyer++) {
                sum = mixed(mixed(sum, limitOf(buyer)), feeOf(buyer));
            }
            return sum;
        }
    }

    /** Those who may deal, and all dealings of a set of them for what was heard, one behind the other by their numbers. */
    private static final class Deals {
        private final Buyers buyers = new Buyers();
        private final int[] steps = new int[MOST_BUYERS];
        private int together;
        private int set;
        private long weight;
        private long edge;
        private int slope;

        void begin(Hearing heard, int atSlope, int ofSet) {
            weight = heard.weight;
            edge = heard.edge;
            slope = atSlope;
            set = ofSet;
        }

        /** Of those at rest: how many (0), the dealt one (1), one by its place behind FIRST_AT_REST. */
        int look(int what) {
            int found = 0;
            int best = NONE;
            long most = 0;
            sellMost();
            for (int i = 0; i < MOST_DEALINGS; i++) {
                if (isAtRest()) {
                    if (what - FIRST_AT_REST == found) {
                        return number();
                    }
                    found++;
                    long sum = madeTogether();
                    if (best == NONE || sum > most) {
                        best = number();
                        most = sum;
                    }
                }
                if (!goOn()) {
                    break;
                }
            }
            if (what == 0) {
                return found;
            }
            return what == 1 ? best : NONE;
        }

        void deal(int dealings) {
            together = 0;
            for (int i = 0; i < steps.length; i++) {
                steps[i] = i < buyers.count ? Buyers.stepOf(dealings, i) : 0;
                together += steps[i];
            }
        }

        long madeBy(int dealings, int buyer) {
            deal(dealings);
            return gain(buyer, 0);
        }

        /** What a buyer makes (weight times) by d steps more, the others being as they are. */
        long gain(int buyer, int d) {
            if (buyer < 0 || buyer >= steps.length) {
                return 0;
            }
            long x = steps[buyer] + d;
            long price = weight * slope * (together + d);
            return x * (edge - price) - weight * buyers.feeOf(buyer) * (x < 0 ? -x : x);
        }

        private void sellMost() {
            together = 0;
            for (int i = 0; i < steps.length; i++) {
                steps[i] = isIn(set, i) ? -buyers.limitOf(i) : 0;
                together += steps[i];
            }
        }

        private boolean goOn() {
            for (int i = 0; i < steps.length; i++) {
                int limit = buyers.limitOf(i);
                if (isIn(set, i) && steps[i] < limit) {
                    steps[i]++;
                    together++;
                    return true;
                }
                if (isIn(set, i)) {
                    steps[i] = -limit;
                    together -= 2 * limit;
                }
            }
            return false;
        }

        /** The more steps, the less the next one brings: if any other x were better, the next one to it would be. */
        private boolean isAtRest() {
            for (int i = 0; i < steps.length; i++) {
                if (isIn(set, i)) {
                    int limit = buyers.limitOf(i);
                    long now = gain(i, 0);
                    boolean more = steps[i] < limit && gain(i, 1) > now;
                    boolean less = steps[i] > -limit && gain(i, -1) > now;
                    if (more || less) {
                        return false;
                    }
                }
            }
            return true;
        }

        private long madeTogether() {
            long sum = 0;
            for (int i = 0; i < steps.length; i++) {
                sum += gain(i, 0);
            }
            return sum;
        }

        private int number() {
            int sum = 0;
            for (int i = 0; i < steps.length && i < buyers.count && i < PLACES.length; i++) {
                sum += (steps[i] + NO_STEP) * PLACES[i];
            }
            return sum;
        }
    }

    /** What is drawn, again and again. */
    private static final class Seed {
        private long now;

        int draw(int d) {
            now = (1103515245L * now + 12345L) % (1L << 31);
            return d < 1 ? 0 : (int) (now / 65536 % d);
        }
    }
}
