import java.util.ArrayList;
import java.util.HashMap;
import java.util.List;
import java.util.Map;
import java.util.Random;

/** Random calls, each answered a second time by the document's words taken plainly: all dealings, all other x. */
public final class OracleTest {
    // More calls of one object are not promised; a set-up takes at most 8 and the call behind it.
    private static final int OBJECTS = 120, CALLS = 512, SET_UP_CALLS = 9;
    private static int wrong = 0;
    private static long asked = 0;

    public static void main(String[] args) {
        for (int i = 0; i < OBJECTS && wrong < 20; i++) {
            new Driver(i).go();
        }
        System.out.println(wrong == 0 ? asked + " answers as reckoned plainly" : wrong + " answers not as reckoned");
        if (wrong != 0) {
            System.exit(1);
        }
    }

    private static final class Driver {
        private final Random random;
        private final int run;
        private final SoldNews x = new SoldNews();
        private final Oracle o = new Oracle();

        Driver(int run) {
            this.run = run;
            random = new Random(run * 7919L + 17);
        }

        void go() {
            int wild = random.nextInt(3);
            for (int call = 0; call < CALLS && wrong < 20; call++) {
                boolean again = call == 0 && wild != 0 || random.nextInt(60) == 0;
                if (again && call < CALLS - SET_UP_CALLS) {
                    call += setUp();
                }
                one(wild == 2 ? 30 : 8);
            }
        }

        private int setUp() {
            String text = marketText();
            is("blank", x.blank(), o.blank());
            int calls = 2;
            for (int from = 0; from < text.length(); from += 8) {
                long w = 0;
                for (int i = Math.min(text.length(), from + 8) - 1; i >= from; i--) {
                    w = w << 8 | text.charAt(i);
                }
                is("letters", x.letters(w), o.letters(w));
                calls++;
            }
            if (random.nextBoolean()) {
                is("fault of " + text, x.fault(), o.fault());
                calls++;
            }
            is("market of " + text, x.market(), o.market());
            return calls;
        }

        private String marketText() {
            int near = random.nextBoolean() ? 12 : 200;
            int base = random.nextInt(1000);
            StringBuilder s = new StringBuilder("p").append(base).append('s').append(1 + random.nextInt(9));
            int cases = 1 + random.nextInt(4);
            for (int c = 0; c < cases; c++) {
                int value = Math.max(0, Math.min(999, base + random.nextInt(2 * near + 1) - near));
                s.append(';').append(1 + random.nextInt(99)).append(':').append(value);
            }
            if (random.nextInt(4) == 0) {
                s.setCharAt(random.nextInt(s.length()), "ps;:0123456789x".charAt(random.nextInt(15)));
            }
            if (random.nextInt(8) == 0) {
                s.append("ps;:0123456789x".charAt(random.nextInt(15)));
            }
            return s.toString();
        }

        private int any(int from, int to, int wildness) {
            if (random.nextInt(wildness) == 0) {
                int[] odd = {-1, from - 1, to + 1, Integer.MAX_VALUE, Integer.MIN_VALUE, random.nextInt()};
                return odd[random.nextInt(odd.length)];
            }
            return from + random.nextInt(to - from + 1);
        }

        private void is(String what, long got, long want) {
            asked++;
            if (got != want) {
                wrong++;
                System.out.println("object " + run + ": " + what + " answered " + got + ", due is " + want);
            }
        }

        private void one(int w) {
            int news = any(0, Math.max(0, o.kinds.size() - 1), w), set = any(0, (1 << o.limits.size()) - 1, w);
            int sign = any(0, o.known() ? Math.max(0, o.weights.length - 1) : 3, w), part = any(0, 1, w);
            if (random.nextInt(6) == 0) {
                sign = any(0, 3, w);
            }
            int buyer = any(0, Math.max(0, o.limits.size() - 1), w);
            int c = any(0, o.known() ? o.weights.length - 1 : 3, w), how = any(0, 1, w);
            switch (random.nextInt(28)) {
                case 0: {
                    long word = random.nextInt(4) == 0 ? random.nextLong() & 0x7f7f7f7f7f7f7f7fL : random.nextInt(128);
                    is("letters " + word, x.letters(word), o.letters(word));
                    break;
                }
                case 1: is("blank", x.blank(), o.blank()); break;
                case 2: is("fault", x.fault(), o.fault()); break;
                case 3: is("market", x.market(), o.market()); break;
                case 4: {
                    int which = random.nextBoolean() ? c : -1;
                    is("told", x.told(which, how), o.told(which, how));
                    break;
                }
                case 5: {
                    int limit = any(1, 3, w), fee = any(0, random.nextBoolean() ? 12 : 99, w);
                    is("buyer", x.buyer(limit, fee), o.buyer(limit, fee));
                    break;
                }
                case 6: {
                    int v = how == 0 ? any(1, 3, w) : any(0, random.nextBoolean() ? 9 : 99, w);
                    is("change", x.change(buyer, how, v), o.change(buyer, how, v));
                    break;
                }
                case 7: {
                    int kind = any(0, 4, w), n = any(0, kind > 2 ? 100 : 255, w);
                    is("news", x.news(kind, n), o.news(kind, n));
                    break;
                }
                case 8: {
                    int kind = any(0, 4, w);
                    is("as", x.as(news, kind), o.as(news, kind));
                    break;
                }
                case 9: is("heard", x.heard(news, sign, part), o.heard(news, sign, part)); break;
                case 10: is("edge", x.edge(news, sign, part), o.edge(news, sign, part)); break;
                case 11: {
                    int what = random.nextInt(2) == 0 ? any(0, 1, w) : any(10, random.nextBoolean() ? 14 : 99, w);
                    is("rests " + news + " " + set + " " + sign + " " + what,
                        x.rests(news, set, sign, what), o.rests(news, set, sign, what));
                    break;
                }
                case 12: {
                    int dealings = dealings(w);
                    is("makes " + news + " " + sign + " " + dealings + " " + buyer + " " + part,
                        x.makes(news, sign, dealings, buyer, part), o.makes(news, sign, dealings, buyer, part));
                    break;
                }
                case 13: is("worth", x.worth(news, set, buyer, part), o.worth(news, set, buyer, part)); break;
                case 14: is("whom", x.whom(news, how), o.whom(news, how)); break;
                case 15: is("plainly", x.plainly(how), o.plainly(how)); break;
                case 16: is("more", x.more(news, set), o.more(news, set)); break;
                case 17: is("pledge", x.pledge(news, set, part), o.pledge(news, set, part)); break;
                case 18: is("on", x.on(news, set, how), o.on(news, set, how)); break;
                case 19: is("shut", x.shut(news, buyer, part), o.shut(news, buyer, part)); break;
                case 20:
                    is("wrongly", x.wrongly(news, set, sign, c, buyer, part),
                        o.wrongly(news, set, sign, c, buyer, part));
                    break;
                case 21: is("shown", x.shown(news, set), o.shown(news, set)); break;
                case 22: is("thought", x.thought(news, set, sign, part), o.thought(news, set, sign, part)); break;
                case 23: is("bound", x.bound(part), o.bound(part)); break;
                case 24: {
                    int seed = any(0, Integer.MAX_VALUE - 1, w), days = any(1, 100, w), what = any(0, 2, w);
                    is("run", x.run(news, set, seed, days, what), o.run(news, set, seed, days, what));
                    break;
                }
                case 25: {
                    int what = any(0, 4, w);
                    is("count", x.count(what), o.count(what));
                    break;
                }
                default: is("digest", x.digest(), o.digest());
            }
        }

        private int dealings(int w) {
            int number = 0;
            for (int i = o.limits.size() - 1; i >= 0; i--) {
                int limit = o.limits.get(i);
                number = 7 * number + 3 + (random.nextInt(10) == 0 ? random.nextInt(4) : random.nextInt(2 * limit + 1) - limit);
            }
            return random.nextInt(w) == 0 ? any(0, 5000, 2) : number;
        }
    }

    /** The document, word by word; money in hundredths, how often in parts of one whole. */
    private static final class Oracle {
        private static final int NONE = -1, UNKNOWN = -101, OUTSIDE = -102, STATE = -103, FULL = -104;
        private static final long NO = -1000000000000000000L;
        String page = "";
        int base, slope;
        int[] weights, values;
        final List<Integer> limits = new ArrayList<>(), fees = new ArrayList<>();
        final List<Integer> kinds = new ArrayList<>(), ns = new ArrayList<>();
        int done = 0;
        final Map<String, List<Integer>> resting = new HashMap<>();

        boolean known() {
            return weights != null;
        }

        int letters(long w) {
            StringBuilder s = new StringBuilder();
            boolean ended = false;
            for (int i = 0; i < 8; i++) {
                int b = (int) (w >> 8 * i) & 0xff;
                if (b > 126 || ended && b != 0) {
                    return OUTSIDE;
                }
                ended |= b == 0;
                if (b != 0) {
                    s.append((char) b);
                }
            }
            if (page.length() + s.length() > 60) {
                return FULL;
            }
            page += s;
            return page.length();
        }

        int blank() {
            int had = page.length();
            page = "";
            return had;
        }

        private static final String CASE = ";[1-9][0-9]?:[0-9]{1,3}";
        private static final String MARKET = "p[0-9]{1,3}s[1-9](" + CASE + "){1,4}";

        /** Whether any market begins so: tries what may follow. */
        private static boolean begins(String s) {
            for (String end : new String[] {"", "p0s1;1:0", "0s1;1:0", "s1;1:0", "1;1:0", ";1:0", "1:0", ":0", "0"}) {
                if ((s + end).matches(MARKET)) {
                    return true;
                }
            }
            return false;
        }

        int fault() {
            for (int i = 1; i <= page.length(); i++) {
                if (!begins(page.substring(0, i))) {
                    return i - 1;
                }
            }
            return page.length();
        }

        int market() {
            if (!page.matches(MARKET)) {
                return STATE;
            }
            String[] parts = page.split(";");
            base = Integer.parseInt(parts[0].substring(1, parts[0].indexOf('s')));
            slope = Integer.parseInt(parts[0].substring(parts[0].indexOf('s') + 1));
            weights = new int[parts.length - 1];
            values = new int[parts.length - 1];
            for (int c = 0; c < weights.length; c++) {
                weights[c] = Integer.parseInt(parts[c + 1].split(":")[0]);
                values[c] = Integer.parseInt(parts[c + 1].split(":")[1]);
            }
            page = "";
            resting.clear();
            return weights.length;
        }

        int told(int c, int what) {
            if (!known() || c < -1 || c >= weights.length) {
                return UNKNOWN;
            }
            if (what < 0 || what > 1) {
                return OUTSIDE;
            }
            return c == -1 ? (what == 0 ? base : slope) : (what == 0 ? weights[c] : values[c]);
        }

        int buyer(int limit, int fee) {
            if (limit < 1 || limit > 3 || fee < 0 || fee > 99) {
                return OUTSIDE;
            }
            if (limits.size() == 4) {
                return FULL;
            }
            limits.add(limit);
            fees.add(fee);
            resting.clear();
            return limits.size() - 1;
        }

        int change(int buyer, int what, int v) {
            if (buyer < 0 || buyer >= limits.size()) {
                return UNKNOWN;
            }
            if (what < 0 || what > 1 || v < (what == 0 ? 1 : 0) || v > (what == 0 ? 3 : 99)) {
                return OUTSIDE;
            }
            resting.clear();
            return (what == 0 ? limits : fees).set(buyer, v);
        }

        int news(int kind, int n) {
            if (kind < 0 || kind > 4 || n < 0 || n > 255 || kind > 2 && n > 100) {
                return OUTSIDE;
            }
            if (kinds.size() == 8) {
                return FULL;
            }
            kinds.add(kind);
            ns.add(n);
            return kinds.size() - 1;
        }

        int as(int news, int kind) {
            if (news < 0 || news >= kinds.size()) {
                return UNKNOWN;
            }
            if (kind < 0 || kind > 4) {
                return OUTSIDE;
            }
            int is = kinds.get(news);
            return kind == 0 || is == kind || kind == 1 && is >= 3 ? news : NONE;
        }

        /** Of 600 times, so that hundredths by 1, 2 or 3 others leave no rest. */
        long often(int news, int c, int sign) {
            int n = ns.get(news);
            switch (kinds.get(news)) {
                case 0: return sign == 0 ? 600 : 0;
                case 2: return sign == Character.digit(("000" + Integer.toString(n, 4)).charAt(
                    ("000" + Integer.toString(n, 4)).length() - 1 - c), 10) ? 600 : 0;
                case 3:
                    if (weights.length == 1 || sign >= weights.length) {
                        return sign == c ? 600 : 0;
                    }
                    return sign == c ? 6L * (100 - n) : 6L * n / (weights.length - 1);
                default: return sign == c ? 600 : 0;
            }
        }

        long both(int news, int c, int sign) {
            return weights[c] * often(news, c, sign);
        }

        long heardWeight(int news, int sign) {
            long sum = 0;
            for (int c = 0; c < weights.length; c++) {
                sum += both(news, c, sign);
            }
            return sum;
        }

        long all() {
            long sum = 0;
            for (int weight : weights) {
                sum += 600L * weight;
            }
            return sum;
        }

        long baseIn(int news, int c) {
            int n = kinds.get(news) == 4 ? ns.get(news) : 0;
            return 100L * base + (long) (values[c] - base) * n;
        }

        static long part(long above, long below, int part) {
            java.math.BigInteger g = java.math.BigInteger.valueOf(above).gcd(java.math.BigInteger.valueOf(below));
            return (part == 0 ? above : below) / g.longValueExact();
        }

        static boolean in(int v, int from, int to) {
            return v >= from && v <= to;
        }

        boolean isSet(int set) {
            return in(set, 0, (1 << limits.size()) - 1);
        }

        int no(int news, boolean known, boolean inside) {
            if (!in(news, 0, kinds.size() - 1)) {
                return UNKNOWN;
            }
            return !known() ? STATE : !known ? UNKNOWN : !inside ? OUTSIDE : 0;
        }

        long noPart(int no) {
            return NO + (no == UNKNOWN ? -1 : no == OUTSIDE ? -2 : -3);
        }

        boolean hasBuyer(int buyer) {
            return in(buyer, 0, limits.size() - 1);
        }

        long heard(int news, int sign, int part) {
            int no = no(news, true, in(sign, 0, 3) && in(part, 0, 1));
            return no != 0 ? noPart(no) : part(heardWeight(news, sign), all(), part);
        }

        long edge(int news, int sign, int part) {
            int no = no(news, true, in(sign, 0, 3) && in(part, 0, 1));
            if (no != 0) {
                return noPart(no);
            }
            long weight = heardWeight(news, sign);
            long sum = 0;
            for (int c = 0; c < weights.length; c++) {
                sum += both(news, c, sign) * (100L * values[c] - baseIn(news, c));
            }
            return weight == 0 ? NO - 4 : part(sum, 100 * weight, part);
        }

        int[] steps(int dealings) {
            int[] x = new int[limits.size()];
            for (int i = 0; i < x.length; i++, dealings /= 7) {
                x[i] = dealings % 7 - 3;
            }
            return x;
        }

        /** In hundredths. */
        long madeIn(int news, int c, int[] x, int i) {
            long total = 0;
            for (int step : x) {
                total += step;
            }
            long price = baseIn(news, c) + 100 * slope * total;
            return x[i] * (100L * values[c] - price) - 100L * fees.get(i) * Math.abs(x[i]);
        }

        /** In hundredths, times the weight. */
        long made(int news, int sign, int[] x, int i) {
            long sum = 0;
            for (int c = 0; c < weights.length; c++) {
                long weight = both(news, c, sign);
                sum += weight == 0 ? 0 : weight * madeIn(news, c, x, i);
            }
            return sum;
        }

        boolean atRest(int news, int set, int sign, int[] x) {
            for (int i = 0; i < x.length; i++) {
                if ((set >> i & 1) == 0) {
                    continue;
                }
                int was = x[i];
                long now = made(news, sign, x, i);
                for (x[i] = -limits.get(i); x[i] <= limits.get(i); x[i]++) {
                    if (made(news, sign, x, i) > now) {
                        x[i] = was;
                        return false;
                    }
                }
                x[i] = was;
            }
            return true;
        }

        List<Integer> atRest(int news, int set, int sign) {
            String key = news + " " + set + " " + sign;
            List<Integer> found = resting.get(key);
            if (found != null) {
                return found;
            }
            found = new ArrayList<>();
            for (int d = 0; d < Math.pow(7, limits.size()); d++) {
                int[] x = steps(d);
                boolean fits = true;
                for (int i = 0; i < x.length; i++) {
                    fits &= Math.abs(x[i]) <= ((set >> i & 1) == 1 ? limits.get(i) : 0);
                }
                if (fits && atRest(news, set, sign, x)) {
                    found.add(d);
                }
            }
            resting.put(key, found);
            return found;
        }

        int dealt(int news, int set, int sign) {
            if (heardWeight(news, sign) == 0) {
                return NONE;
            }
            int best = NONE;
            long most = Long.MIN_VALUE;
            for (int d : atRest(news, set, sign)) {
                long sum = 0;
                for (int i = 0; i < limits.size(); i++) {
                    sum += made(news, sign, steps(d), i);
                }
                if (sum > most) {
                    most = sum;
                    best = d;
                }
            }
            return best;
        }

        int rests(int news, int set, int sign, int what) {
            int no = no(news, true, isSet(set) && in(sign, 0, 3) && (in(what, 0, 1) || in(what, 10, 99)));
            if (no != 0) {
                return no;
            }
            if (heardWeight(news, sign) == 0) {
                return NONE;
            }
            List<Integer> found = atRest(news, set, sign);
            if (what >= 10) {
                return what - 10 < found.size() ? found.get(what - 10) : NONE;
            }
            return what == 0 ? found.size() : dealt(news, set, sign);
        }

        long makes(int news, int sign, int dealings, int buyer, int part) {
            boolean inside = in(sign, 0, 3) && in(part, 0, 1) && dealings >= 0
                && dealings < Math.pow(7, limits.size());
            for (int i = 0; inside && i < limits.size(); i++) {
                inside = Math.abs(steps(dealings)[i]) <= limits.get(i);
            }
            int no = no(news, hasBuyer(buyer), inside);
            if (no != 0) {
                return noPart(no);
            }
            long weight = heardWeight(news, sign);
            return weight == 0 ? NO - 4 : part(made(news, sign, steps(dealings), buyer), 100 * weight, part);
        }

        /** In hundredths, of all. */
        long worth(int news, int set, int buyer) {
            long sum = 0;
            for (int sign = 0; sign < 4; sign++) {
                int d = dealt(news, set, sign);
                sum += d == NONE ? 0 : made(news, sign, steps(d), buyer);
            }
            return sum;
        }

        long worth(int news, int set, int buyer, int part) {
            int no = no(news, hasBuyer(buyer), isSet(set) && in(part, 0, 1));
            return no != 0 ? noPart(no) : part(worth(news, set, buyer), 100 * all(), part);
        }

        long takings(int news, int set, int how) {
            long sum = 0;
            long least = Long.MAX_VALUE;
            for (int i = 0; i < limits.size(); i++) {
                if ((set >> i & 1) == 1) {
                    sum += worth(news, set, i);
                    least = Math.min(least, worth(news, set, i));
                }
            }
            return set == 0 ? 0 : how == 0 ? sum : least * Integer.bitCount(set);
        }

        int bestSet(int news, int how) {
            int best = 0;
            for (int set = 1; set < 1 << limits.size(); set++) {
                best = takings(news, set, how) > takings(news, best, how) ? set : best;
            }
            return best;
        }

        int whom(int news, int how) {
            int no = no(news, true, in(how, 0, 1));
            if (no != 0) {
                return no;
            }
            return done == 40 ? STATE : 0 * done++ + bestSet(news, how);
        }

        int plainly(int how) {
            if (!known()) {
                return STATE;
            }
            if (!in(how, 0, 1)) {
                return OUTSIDE;
            }
            if (done == 40) {
                return STATE;
            }
            done++;
            int best = NONE;
            for (int news = 0; news < kinds.size(); news++) {
                best = best == NONE || takings(news, bestSet(news, how), how) > takings(best, bestSet(best, how), how)
                    ? news : best;
            }
            return best;
        }

        int oneMore(int news, int set) {
            int best = NONE;
            for (int j = 0; j < limits.size(); j++) {
                long pays = worth(news, set | 1 << j, j);
                if ((set >> j & 1) == 0 && pays > (best == NONE ? 0 : worth(news, set | 1 << best, best))) {
                    best = j;
                }
            }
            return best;
        }

        int more(int news, int set) {
            int no = no(news, true, isSet(set));
            return no != 0 ? no : oneMore(news, set);
        }

        long pledge(int news, int set, int part) {
            int no = no(news, true, isSet(set) && in(part, 0, 1));
            if (no != 0) {
                return noPart(no);
            }
            int j = oneMore(news, set);
            return j == NONE ? part : part(worth(news, set | 1 << j, j), 100 * all(), part);
        }

        int on(int news, int set, int what) {
            int no = no(news, true, isSet(set) && in(what, 0, 1));
            if (no != 0) {
                return no;
            }
            for (int i = 0; i < limits.size(); i++) {
                for (int j = 0; (set >> i & 1) == 1 && j < limits.size(); j++) {
                    int both = set | 1 << j;
                    if ((set >> j & 1) == 0 && worth(news, both, i) + worth(news, both, j)
                        > worth(news, set, i) + worth(news, set, j)) {
                        return what == 0 ? i : j;
                    }
                }
            }
            return NONE;
        }

        long shut(int news, int buyer, int part) {
            int no = no(news, hasBuyer(buyer), in(part, 0, 1));
            return no != 0 ? noPart(no) : part(worth(news, 1 << buyer, buyer)
                - worth(news, (1 << limits.size()) - 1, buyer), 100 * all(), part);
        }

        long wrongly(int news, int set, int sign, int c, int buyer, int part) {
            int no = no(news, hasBuyer(buyer) && in(c, 0, known() ? weights.length - 1 : -1),
                isSet(set) && in(sign, 0, 3) && in(part, 0, 1));
            if (no != 0) {
                return noPart(no);
            }
            int d = dealt(news, set, sign);
            return d == NONE ? NO - 4 : part(madeIn(news, c, steps(d), buyer), 100, part);
        }

        int together(int dealings) {
            int sum = 0;
            for (int step : steps(dealings)) {
                sum += step;
            }
            return sum;
        }

        int shown(int news, int set) {
            int no = no(news, true, isSet(set));
            if (no != 0) {
                return no;
            }
            java.util.Set<Integer> looks = new java.util.HashSet<>();
            for (int sign = 0; sign < 4; sign++) {
                if (dealt(news, set, sign) != NONE) {
                    looks.add(together(dealt(news, set, sign)));
                }
            }
            return looks.size();
        }

        long thought(int news, int set, int sign, int part) {
            int no = no(news, true, isSet(set) && in(sign, 0, 3) && in(part, 0, 1));
            if (no != 0) {
                return noPart(no);
            }
            int d = dealt(news, set, sign);
            if (d == NONE) {
                return NO - 4;
            }
            long sum = 0;
            long weight = 0;
            for (int other = 0; other < 4; other++) {
                int e = dealt(news, set, other);
                for (int c = 0; e != NONE && together(e) == together(d) && c < weights.length; c++) {
                    sum += both(news, c, other) * values[c];
                    weight += both(news, c, other);
                }
            }
            return part(sum, weight, part);
        }

        long bound(int part) {
            if (!known()) {
                return NO - 3;
            }
            if (!in(part, 0, 1)) {
                return NO - 2;
            }
            int limit = 0;
            for (int one : limits) {
                limit += one;
            }
            long sum = 0;
            long weight = 0;
            for (int c = 0; c < weights.length; c++) {
                long most = Long.MIN_VALUE;
                for (int x = -limit; x <= limit; x++) {
                    most = Math.max(most, (long) x * (values[c] - base - slope * x));
                }
                sum += most * weights[c];
                weight += weights[c];
            }
            return part(sum, weight, part);
        }

        long seed;

        int draw(int d) {
            seed = java.math.BigInteger.valueOf(seed).multiply(java.math.BigInteger.valueOf(1103515245))
                .add(java.math.BigInteger.valueOf(12345)).mod(java.math.BigInteger.TWO.pow(31)).longValueExact();
            return (int) (seed / 65536 % d);
        }

        int signOf(int news, int c) {
            if (kinds.get(news) == 3 && weights.length > 1 && draw(100) < ns.get(news)) {
                List<Integer> others = new ArrayList<>();
                for (int other = 0; other < weights.length; other++) {
                    if (other != c) {
                        others.add(other);
                    }
                }
                return others.get(draw(weights.length - 1));
            }
            for (int sign = 0; kinds.get(news) != 3 && sign < 4; sign++) {
                if (often(news, c, sign) != 0) {
                    return sign;
                }
            }
            return c;
        }

        int run(int news, int set, int from, int days, int what) {
            int no = no(news, true, isSet(set) && from >= 0 && in(days, 1, 100) && in(what, 0, 2));
            if (no != 0) {
                return no;
            }
            seed = from;
            int sum = 0;
            int still = 0;
            int weight = 0;
            for (int one : weights) {
                weight += one;
            }
            for (int day = 0; day < days; day++) {
                int draw = draw(weight);
                int c = 0;
                while (draw >= weights[c]) {
                    draw -= weights[c++];
                }
                int today = 0;
                for (int step : steps(dealt(news, set, signOf(news, c)))) {
                    today += Math.abs(step);
                }
                sum += today;
                still += today == 0 ? 1 : 0;
            }
            return what == 0 ? (int) seed : what == 1 ? sum : still;
        }

        int count(int what) {
            switch (what) {
                case 0: return known() ? weights.length : 0;
                case 1: return limits.size();
                case 2: return kinds.size();
                case 3: return page.length();
                case 4: return done;
                default: return OUTSIDE;
            }
        }

        long digest() {
            List<Long> all = new ArrayList<>();
            if (known()) {
                all.add((long) base);
                all.add((long) slope);
                for (int c = 0; c < weights.length; c++) {
                    all.add((long) weights[c]);
                    all.add((long) values[c]);
                }
            }
            for (int i = 0; i < limits.size(); i++) {
                all.add((long) limits.get(i));
                all.add((long) fees.get(i));
            }
            for (int news = 0; news < kinds.size(); news++) {
                all.add((long) kinds.get(news));
                all.add((long) ns.get(news));
                for (int sign = 0; known() && sign < 4; sign++) {
                    all.add((long) rests(news, (1 << limits.size()) - 1, sign, 1));
                }
            }
            if (known()) {
                all.add(bound(0));
                all.add(bound(1));
            }
            for (char letter : page.toCharArray()) {
                all.add((long) letter);
            }
            for (int what = 0; what < 5; what++) {
                all.add((long) count(what));
            }
            long h = 359;
            for (long it : all) {
                h = 31 * h + it;
            }
            return h;
        }
    }
}
