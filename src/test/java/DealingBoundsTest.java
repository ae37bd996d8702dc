/** Promises 13 to 26: each sentence that names a boundary, by the last inside and the first outside. */
public final class DealingBoundsTest extends Checks {
    public static void main(String[] args) {
        dealingsAtTheirEnds();
        setsAtTheirEnds();
        nobodyMakesMore();
        likeOnes();
        manyAtRest();
        neverHeard();
        toldDealings();
        madeAtTheEnds();
        madeOverAllSigns();
        worthNothing();
        whomToTell();
        atOnePrice();
        howPlainly();
        fortySales();
        oneMore();
        whoTells();
        allOthersOfAll();
        shutOut();
        toldWrongly();
        shown();
        thought();
        bound();
        boundOfAWeight();
        days();
        drawsOfCases();
        drawsOfABlur();
        drawsOfTwoCases();
        end();
    }

    private static SoldNews of(String text, int... limitsAndFees) {
        SoldNews x = with(text);
        for (int i = 0; i + 1 < limitsAndFees.length; i += 2) {
            x.buyer(limitsAndFees[i], limitsAndFees[i + 1]);
        }
        return x;
    }

    private static final int[] PLACE = {1, 7, 49, 343};

    /** The number of DEALINGS. */
    private static int dealt(int... steps) {
        int sum = 0;
        for (int i = 0; i < steps.length; i++) {
            sum += (steps[i] + 3) * PLACE[i];
        }
        return sum;
    }

    private static void rest(String what, SoldNews x, int set, int chosen, int... all) {
        is(what + ": how many", x.rests(0, set, 0, 0), all.length);
        for (int i = 0; i < all.length; i++) {
            is(what + ": number " + i, x.rests(0, set, 0, 10 + i), all[i]);
        }
        is(what + ": no more", x.rests(0, set, 0, 10 + all.length), NONE);
        is(what + ": the last that can be asked", x.rests(0, set, 0, 99), NONE);
        is(what + ": dealt", x.rests(0, set, 0, 1), chosen);
    }

    private static void dealingsAtTheirEnds() {
        says("each deals x STEPS (from -LIMIT to LIMIT), as figures of base 7 of x and 3, BUYER 0's lowest");
        for (int limit = 1; limit <= 3; limit++) {
            SoldNews up = of("p0s1;1:999", limit, 0, limit, 0, limit, 0, limit, 0);
            up.news(0, 0);
            rest("all buy " + limit, up, 15, (3 + limit) * 400, (3 + limit) * 400);
            SoldNews down = of("p999s1;1:0", limit, 0, limit, 0, limit, 0, limit, 0);
            down.news(0, 0);
            rest("all sell " + limit, down, 15, (3 - limit) * 400, (3 - limit) * 400);
            SoldNews one = of("p0s9;1:999", limit, 99);
            one.news(0, 0);
            rest("one buys " + limit, one, 1, 3 + limit, 3 + limit);
            SoldNews other = of("p999s9;1:0", limit, 99);
            other.news(0, 0);
            rest("one sells " + limit, other, 1, 3 - limit, 3 - limit);
        }
        SoldNews unlike = of("p0s1;1:999", 1, 0, 2, 0, 3, 0, 1, 0);
        unlike.news(0, 0);
        rest("unlike LIMITS", unlike, 15, dealt(1, 2, 3, 1), dealt(1, 2, 3, 1));
    }

    private static void setsAtTheirEnds() {
        says("A SET of BUYERS (bits) knows; others do not deal");
        SoldNews none = with("p0s1;1:999");
        none.news(0, 0);
        rest("no BUYERS", none, 0, 0, 0);
        is("no BUYERS: one above", none.rests(0, 1, 0, 1), OUTSIDE);
        is("no BUYERS: one below", none.rests(0, -1, 0, 1), OUTSIDE);
        int[] limits = {3, 2, 1, 3};
        for (int buyers = 1; buyers <= 4; buyers++) {
            none.buyer(limits[buyers - 1], 0);
            for (int set = 0; set < 1 << buyers; set++) {
                int[] steps = new int[buyers];
                for (int i = 0; i < buyers; i++) {
                    steps[i] = (set >> i & 1) * limits[i];
                }
                is(buyers + " BUYERS, the SET " + set, none.rests(0, set, 0, 1), dealt(steps));
                is(buyers + " BUYERS, the SET " + set, none.rests(0, set, 0, 0), 1);
            }
            is(buyers + " BUYERS: the first SET outside", none.rests(0, 1 << buyers, 0, 1), OUTSIDE);
            is(buyers + " BUYERS: below 0", none.rests(0, -1, 0, 1), OUTSIDE);
        }
    }

    private static void nobodyMakesMore() {
        says("AT REST: nobody of the SET makes more on an average by another x");
        // EDGE 1: one step makes 0, as none does; of EDGE 2 it makes 1, two make 0; of EDGE 3 both make 2.
        int[][] up = {{0, 0}, {0, 1}, {1, 1}, {1, 2}, {2, 2}, {2, 3}, {3, 3}, {3, 3}};
        for (int edge = 0; edge < up.length; edge++) {
            for (int fee : new int[] {0, 1, 50, 99}) {
                SoldNews x = of("p200s1;1:" + (200 + edge + fee), 3, fee);
                x.news(0, 0);
                SoldNews y = of("p200s1;1:" + (200 - edge - fee), 3, fee);
                y.news(0, 0);
                int least = up[edge][0];
                int most = up[edge][1];
                if (least == most) {
                    rest("buys by " + edge + " above a FEE", x, 1, 3 + least, 3 + least);
                    rest("sells by " + edge + " above a FEE", y, 1, 3 - least, 3 - least);
                } else {
                    says("of like ones the least number");
                    rest("buys by " + edge + " above a FEE", x, 1, 3 + least, 3 + least, 3 + most);
                    rest("sells by " + edge + " above a FEE", y, 1, 3 - most, 3 - most, 3 - least);
                    says("AT REST: nobody of the SET makes more on an average by another x");
                }
            }
        }
        says("FEE times the size of x");
        SoldNews kept = of("p200s1;1:300", 3, 99, 3, 98);
        kept.news(0, 0);
        // EDGE 100: one step makes 0 by the greatest FEE, 1 by the next one to it.
        rest("by the greatest FEE", kept, 1, dealt(0, 0), dealt(0, 0), dealt(1, 0));
        rest("by a FEE", kept, 2, dealt(0, 1), dealt(0, 1));
    }

    private static void likeOnes() {
        says("DEALT: that by which all together make most on an average, of like ones the least number");
        // EDGE -8, FEES 3: 2 and 2 sold make 2 each; 1 and 2 make 2 and 4, 2 and 1 make 4 and 2.
        SoldNews x = of("p10s1;1:2", 2, 3, 2, 3);
        x.news(0, 0);
        rest("the second", x, 3, dealt(-1, -2), dealt(-2, -2), dealt(-1, -2), dealt(-2, -1));
        // Without the first one's FEE only 2 and 2 (4 and 2) and 2 and 1 (6 and 2) are at rest.
        x.change(0, 1, 0);
        rest("the last", x, 3, dealt(-2, -1), dealt(-2, -2), dealt(-2, -1));
        says("all together make most on an average: of the SET alone");
        SoldNews y = of("p10s1;1:2", 2, 3, 1, 0, 2, 3);
        y.news(0, 0);
        rest("the second of two of three", y, 5, dealt(-1, 0, -2),
            dealt(-2, 0, -2), dealt(-1, 0, -2), dealt(-2, 0, -1));
    }

    private static void manyAtRest() {
        says("how many DEALINGS are at rest (what = 0), the i-th at rest by their numbers (10 and i; NONE)");
        // EDGE 0: as many buy a step as sell one: 1, 12 and 6.
        SoldNews x = of("p70s6;1:70", 3, 0, 3, 0, 3, 0, 3, 0);
        x.news(0, 0);
        is("how many", x.rests(0, 15, 0, 0), 19);
        is("the first", x.rests(0, 15, 0, 10), dealt(1, 1, -1, -1));
        is("the second", x.rests(0, 15, 0, 11), dealt(1, 0, 0, -1));
        is("the middle", x.rests(0, 15, 0, 19), dealt(0, 0, 0, 0));
        is("the last but one", x.rests(0, 15, 0, 27), dealt(-1, 0, 0, 1));
        is("the last", x.rests(0, 15, 0, 28), dealt(-1, -1, 1, 1));
        is("behind the last", x.rests(0, 15, 0, 29), NONE);
        is("the last that can be asked", x.rests(0, 15, 0, 99), NONE);
        is("dealt", x.rests(0, 15, 0, 1), dealt(1, 1, -1, -1));
        says("OUTSIDE: what (10 to 99 else)");
        for (int what : new int[] {-1, 2, 3, 8, 9, 100, 101, LOW, HIGH}) {
            is("what " + what, x.rests(0, 15, 0, what), OUTSIDE);
        }
    }

    private static void neverHeard() {
        says("NONE: it is never heard");
        SoldNews x = of("p10s1;1:14;1:14;1:14", 3, 0);
        x.news(1, 0);
        for (int what : new int[] {0, 1, 10, 11, 99}) {
            is("what " + what, x.rests(0, 1, 3, what), NONE);
            is("what " + what + ", nobody knowing", x.rests(0, 0, 3, what), NONE);
        }
        is("the last that is heard", x.rests(0, 1, 2, 0), 1);
        is("OUTSIDE ahead of it", x.rests(0, 1, 3, 2), OUTSIDE);
        is("OUTSIDE ahead of it", x.rests(0, 2, 3, 1), OUTSIDE);
        is("the first SIGN outside", x.rests(0, 1, 4, 1), OUTSIDE);
        is("a SIGN below", x.rests(0, 1, -1, 1), OUTSIDE);
        says("there is none: it is never heard");
        isNo("makes", p -> x.makes(0, 3, 3, 0, p), P_NONE);
        isNo("wrongly", p -> x.wrongly(0, 1, 3, 0, 0, p), P_NONE);
        isNo("thought", p -> x.thought(0, 1, 3, p), P_NONE);
    }

    /** Promise 14. */
    private static void toldDealings() {
        says("OUTSIDE: dealings (a figure beyond a LIMIT, above all BUYERS', below 0)");
        for (int buyers = 1; buyers <= 4; buyers++) {
            SoldNews x = with("p100s1;1:100");
            for (int i = 0; i < buyers; i++) {
                x.buyer(3, 0);
            }
            x.news(0, 0);
            int all = buyers == 4 ? 2401 : PLACE[buyers];
            isPart(buyers + ": all sell 3", p -> x.makes(0, 0, 0, 0, p), -9 * x.count(1), 1);
            isPart(buyers + ": all buy 3", p -> x.makes(0, 0, all - 1, 0, p), -9 * x.count(1), 1);
            for (int outside : new int[] {-1, all, all + 1, all + (all - 1) / 2, 7 * all, HIGH, LOW, -all}) {
                isNo(buyers + ": " + outside, p -> x.makes(0, 0, outside, 0, p), P_OUTSIDE);
            }
        }
        for (int limit = 1; limit <= 3; limit++) {
            for (int one = 0; one < 4; one++) {
                SoldNews x = with("p100s1;1:100");
                for (int i = 0; i < 4; i++) {
                    x.buyer(i == one ? limit : 3, 0);
                }
                x.news(0, 0);
                for (int figure = 0; figure < 7; figure++) {
                    int dealings = 1200 + (figure - 3) * PLACE[one];
                    int size = figure - 3;
                    if (Math.abs(size) <= limit) {
                        int i = one;
                        isPart(one + " by " + size, p -> x.makes(0, 0, dealings, i, p), -size * size, 1);
                    } else {
                        isNo(one + " by " + size, p -> x.makes(0, 0, dealings, (one(x) + 1) % 4, p), P_OUTSIDE);
                    }
                }
            }
        }
        says("OUTSIDE: dealings, by the LIMIT as it is");
        SoldNews x = of("p100s1;1:100", 1, 0);
        x.news(0, 0);
        isNo("above", p -> x.makes(0, 0, 5, 0, p), P_OUTSIDE);
        x.change(0, 0, 2);
        isPart("not above", p -> x.makes(0, 0, 5, 0, p), -4, 1);
        x.change(0, 0, 1);
        isNo("above again", p -> x.makes(0, 0, 5, 0, p), P_OUTSIDE);
    }

    /** The first BUYER whose LIMIT is not 3. */
    private static int one(SoldNews x) {
        for (int i = 0; i < 4; i++) {
            int limit = x.change(i, 0, 3);
            x.change(i, 0, limit);
            if (limit != 3) {
                return i;
            }
        }
        return 0;
    }

    private static void madeAtTheEnds() {
        says("In a CASE a BUYER makes x times (VALUE less THE PRICE), less FEE times the size of x");
        SoldNews x = of("p0s9;1:999", 3, 99, 3, 0, 3, 99, 3, 99);
        x.news(0, 0);
        // All sell: the price -108.
        isPart("all sell", p -> x.makes(0, 0, 0, 0, p), -3321 - 297, 1);
        isPart("all sell, without a FEE", p -> x.makes(0, 0, 0, 1, p), -3321, 1);
        // All buy: the price 108.
        isPart("all buy", p -> x.makes(0, 0, 2400, 3, p), 2673 - 297, 1);
        isPart("nobody", p -> x.makes(0, 0, 1200, 3, p), 0, 1);
        isPart("the others", p -> x.makes(0, 0, 2400 - 3 * 343, 3, p), 0, 1);
        SoldNews y = of("p999s9;1:0", 3, 99, 3, 0, 3, 99, 3, 99);
        y.news(0, 0);
        isPart("all buy in vain", p -> y.makes(0, 0, 2400, 0, p), -3321 - 297, 1);
        isPart("all sell well", p -> y.makes(0, 0, 0, 0, p), 2673 - 297, 1);
    }

    private static void madeOverAllSigns() {
        says("MAKES: over all SIGNS, by how often each is heard");
        SoldNews x = of("p100s1;1:102;2:104;3:106;4:98", 3, 0);
        x.news(1, 0);
        x.news(2, 228);
        // 1, 4, 9 and 1, by 1, 2, 3 and 4.
        isPart("four SIGNS", p -> x.worth(0, 1, 0, p), 4, 1);
        isPart("four GROUPS", p -> x.worth(1, 1, 0, p), 4, 1);
        x.news(4, 100);
        isPart("of LATE that is too late", p -> x.worth(2, 1, 0, p), 0, 1);
        x.news(4, 0);
        isPart("of LATE that is not late", p -> x.worth(3, 1, 0, p), 4, 1);
        SoldNews blur = blurOfFour();
        // 0, 16, 58 and 147 of 15, each a fourth of the times.
        isPart("of a BLUR", p -> blur.worth(0, 1, 0, p), 221, 60);
        isPart("of a BLUR, not of the SET", p -> blur.worth(0, 0, 0, p), 0, 1);
    }

    /** By 40 hundredths: EDGES -4 / 15, 31 / 15, 59 / 15 and 94 / 15: 0, 1, 2, 3 steps. */
    private static SoldNews blurOfFour() {
        SoldNews x = of("p100s1;1:96;1:101;1:105;1:110", 3, 0);
        x.news(3, 40);
        return x;
    }

    private static void worthNothing() {
        says("0, if it is not of the SET");
        SoldNews x = of("p0s1;1:999", 3, 0, 3, 0, 3, 0, 3, 0);
        x.news(0, 0);
        for (int set = 0; set < 16; set++) {
            int steps = 3 * Integer.bitCount(set);
            for (int buyer = 0; buyer < 4; buyer++) {
                int b = buyer;
                int s = set;
                isPart("buyer " + b + " of " + s, p -> x.worth(0, s, b, p), (s >> b & 1) * 3 * (999 - steps), 1);
            }
        }
        isNo("the first SET outside", p -> x.worth(0, 16, 0, p), P_OUTSIDE);
        isNo("a SET below", p -> x.worth(0, -1, 0, p), P_OUTSIDE);
    }

    /** Promise 16: what = 0. */
    private static void whomToTell() {
        says("WHOM TO TELL: of all SETS that by which that together is most; of like ones the least SET (nobody: 0)");
        SoldNews none = with("p0s1;1:999");
        none.news(0, 0);
        is("no BUYERS", none.whom(0, 0), 0);
        is("no BUYERS at one price", none.whom(0, 1), 0);
        int all = 0;
        for (int i = 0; i < 4; i++) {
            none.buyer(3, 0);
            all = 2 * all + 1;
            is("all of them", none.whom(0, 0), all);
            is("all of them at one price", none.whom(0, 1), all);
        }
        SoldNews still = of("p100s1;1:101", 3, 0, 3, 0);
        still.news(0, 0);
        is("nothing is made", still.whom(0, 0), 0);
        is("nothing is made at one price", still.whom(0, 1), 0);
        // A FEE of 99 keeps those ahead of the last from dealing.
        SoldNews last = of("p100s1;1:150", 3, 99, 3, 99, 3, 99, 3, 0);
        last.news(0, 0);
        is("the last alone", last.whom(0, 0), 8);
        is("the last alone at one price", last.whom(0, 1), 8);
        last.change(3, 1, 99);
        is("nobody any more", last.whom(0, 0), 0);
        // EDGE 6: alone 3 steps make 9; of two at most 8 together.
        SoldNews one = of("p100s1;1:106", 3, 0, 3, 0, 3, 0);
        one.news(0, 0);
        is("one is best", one.whom(0, 0), 1);
        is("one is best at one price", one.whom(0, 1), 1);
    }

    private static void atOnePrice() {
        says("AT ONE PRICE: by which the least that one of it MAKES, times how many they are, is most");
        // EDGE 30: 3 and 1: 78 and 26: 104, twice 26 is 52; the first alone 81; the other 29.
        SoldNews x = of("p100s1;1:130", 3, 0, 1, 0);
        x.news(0, 0);
        is("unlike prices", x.whom(0, 0), 3);
        is("one price", x.whom(0, 1), 1);
        // LIMITS 2 and 1: alone 56, both 54 and 27: twice 27 is less than 56.
        x.change(0, 0, 2);
        is("one price, nearly", x.whom(0, 1), 1);
        // A FEE of 2: alone 52, both 50 and 27: twice 27 is more.
        x.change(0, 1, 2);
        is("one price, just", x.whom(0, 1), 3);
        // A FEE of 1: alone 54, both 52 and 27: as much.
        x.change(0, 1, 1);
        is("one price, as much: the least", x.whom(0, 1), 1);
        is("unlike prices", x.whom(0, 0), 3);
    }

    /** Promise 17. */
    private static void howPlainly() {
        says("HOW PLAINLY: NONE: there are none");
        SoldNews x = of("p100s1;1:130;1:70", 3, 0, 1, 0);
        is("no NEWS", x.plainly(0), NONE);
        is("no NEWS at one price", x.plainly(1), NONE);
        is("it was done", x.count(4), 2);
        says("of all NEWS told the one by which that is most (of like ones the least)");
        x.news(0, 0);
        is("one alone", x.plainly(0), 0);
        x.news(3, 50);
        is("of like ones", x.plainly(0), 0);
        x.news(3, 25);
        is("the last", x.plainly(0), 2);
        is("the last at one price", x.plainly(1), 2);
        x.news(3, 40);
        is("one less", x.plainly(0), 2);
        is("one less at one price", x.plainly(1), 2);
        x.news(1, 0);
        is("the last", x.plainly(0), 4);
        x.news(3, 100);
        is("of like ones", x.plainly(0), 4);
        is("of like ones at one price", x.plainly(1), 4);
        x.news(4, 1);
        is("one less", x.plainly(1), 4);
        x.news(0, 0);
        is("of eight", x.plainly(0), 4);
        SoldNews last = of("p100s1;1:130;1:70", 3, 0);
        for (int i = 0; i < 7; i++) {
            last.news(0, 0);
        }
        is("of like ones that make nothing", last.plainly(0), 0);
        last.news(1, 0);
        is("the eighth", last.plainly(0), 7);
        SoldNews nobody = with("p100s1;1:130;1:70");
        nobody.news(1, 0);
        nobody.news(0, 0);
        is("without BUYERS", nobody.plainly(0), 0);
        is("without BUYERS at one price", nobody.plainly(1), 0);
        says("how as there: at unlike prices, at one price");
        // EDGES 3, -10, 4: both make 2, 12, 2 and 0, 12, 2; GROUPS of EDGE 3 and a half, -10: both make 3, 12.
        SoldNews how = of("p100s1;1:103;1:90;1:104", 3, 0, 3, 0);
        how.news(1, 0);
        how.news(2, 4);
        isPart("the first makes more", p -> how.worth(0, 3, 0, p), 16, 3);
        isPart("than the other", p -> how.worth(0, 3, 1, p), 14, 3);
        isPart("each makes as much", p -> how.worth(1, 3, 0, p), 5, 1);
        isPart("each makes as much", p -> how.worth(1, 3, 1, p), 5, 1);
        is("as much at unlike prices", how.plainly(0), 0);
        is("more at one price", how.plainly(1), 1);
    }

    private static void fortySales() {
        says("STATE, too: whom(), plainly() were done 40 times ever together");
        for (int first = 0; first <= 40; first += 10) {
            SoldNews x = of("p100s1;1:101", 1, 0);
            x.news(0, 0);
            for (int i = 0; i < 40; i++) {
                is("sale " + i, i < first ? x.whom(0, i % 2) : x.plainly(i % 2), 0);
                is("a refused one is not done", x.whom(0, 2), OUTSIDE);
                is("a refused one is not done", x.plainly(-1), OUTSIDE);
                is("so often", x.count(4), i + 1);
            }
            is("whom once more", x.whom(0, 0), STATE);
            is("plainly once more", x.plainly(0), STATE);
            is("whom once more", x.whom(0, 1), STATE);
            is("plainly once more", x.plainly(1), STATE);
            is("UNKNOWN ahead of it", x.whom(1, 0), UNKNOWN);
            is("OUTSIDE ahead of it", x.whom(0, 2), OUTSIDE);
            is("OUTSIDE ahead of it", x.plainly(2), OUTSIDE);
            is("forty", x.count(4), 40);
        }
        says("ever");
        SoldNews x = of("p100s1;1:101", 1, 0);
        x.news(0, 0);
        for (int i = 0; i < 39; i++) {
            x.plainly(0);
        }
        write(x, "p100s1;1:103");
        x.market();
        x.buyer(1, 0);
        is("the fortieth", x.whom(0, 0), 1);
        x.news(0, 0);
        is("the 41st", x.whom(1, 0), STATE);
        is("the 41st", x.plainly(0), STATE);
        says("without a MARKET: STATE, not done");
        SoldNews bare = new SoldNews();
        bare.news(0, 0);
        is("whom", bare.whom(0, 0), STATE);
        is("plainly", bare.plainly(0), STATE);
        is("none", bare.count(4), 0);
        says("plainly() without NEWS, the fortieth and the next");
        SoldNews none = with("p1s1;1:1");
        for (int i = 0; i < 40; i++) {
            is("plainly", none.plainly(i % 2), NONE);
        }
        is("plainly", none.plainly(0), STATE);
    }

    /** Promises 18, 19. */
    private static void oneMore() {
        says("ONE MORE: of the others the one that MAKES most when it knows, too (above 0; of like ones the least)");
        SoldNews none = with("p100s1;1:130");
        none.news(0, 0);
        is("no BUYERS", none.more(0, 0), NONE);
        isPart("no BUYERS", p -> none.pledge(0, 0, p), 0, 1);
        SoldNews x = of("p100s1;1:101", 3, 0, 3, 0, 3, 0, 3, 0);
        x.news(0, 0);
        is("each makes 0", x.more(0, 0), NONE);
        isPart("0 by 1: nobody would pay", p -> x.pledge(0, 0, p), 0, 1);
        write(x, "p100s1;1:102");
        x.market();
        is("each makes 1", x.more(0, 0), 0);
        isPart("each makes 1", p -> x.pledge(0, 0, p), 1, 1);
        // Of EDGE 2 the second makes 0 by a step, as by none.
        is("a second makes 0", x.more(0, 1), NONE);
        isPart("a second makes 0", p -> x.pledge(0, 1, p), 0, 1);
        write(x, "p100s1;1:150");
        x.market();
        for (int set = 0; set < 15; set++) {
            int s = set;
            is("the least of like ones, not of " + set, x.more(0, set), Integer.numberOfTrailingZeros(~set));
            isPart("its pledge", p -> x.pledge(0, s, p), 3 * (47 - 3 * Integer.bitCount(s)), 1);
        }
        is("all know", x.more(0, 15), NONE);
        isPart("all know", p -> x.pledge(0, 15, p), 0, 1);
        x.change(3, 1, 1);
        x.change(2, 0, 2);
        is("as much and less", x.more(0, 0), 0);
        x.change(0, 1, 2);
        x.change(1, 1, 2);
        is("the last makes most", x.more(0, 0), 3);
        isPart("the last makes most", p -> x.pledge(0, 0, p), 138, 1);
        x.change(3, 1, 2);
        is("the least of like ones", x.more(0, 0), 0);
        says("above 0: by a hundredth");
        // LATE by 99 hundredths: EDGE 101 hundredths, of which one step makes one.
        SoldNews little = of("p100s1;1:201", 3, 0);
        little.news(4, 99);
        is("one more", little.more(0, 0), 0);
        isPart("pledge", p -> little.pledge(0, 0, p), 1, 100);
        is("whom", little.whom(0, 0), 1);
        is("whom at one price", little.whom(0, 1), 1);
        little.news(4, 100);
        is("none more", little.more(1, 0), NONE);
        is("nobody", little.whom(1, 0), 0);
    }

    /** Promise 20. */
    private static void whoTells() {
        says("ON: the least BUYER i of the SET for whom there is another j, so that both together MAKE more");
        SoldNews none = with("p100s1;1:130");
        none.news(0, 0);
        for (int what = 0; what < 2; what++) {
            is("no BUYERS", none.on(0, 0, what), NONE);
        }
        // EDGE 6: alone 9, both 4 and 4: less. EDGE 9: alone 3 steps make 18, both 9 and 9: as much.
        for (int edge = 0; edge <= 9; edge++) {
            SoldNews x = of("p100s1;1:" + (100 + edge), 3, 0, 3, 0);
            x.news(0, 0);
            is("not more by EDGE " + edge, x.on(0, 1, 0), NONE);
            is("not more by EDGE " + edge, x.on(0, 2, 1), NONE);
        }
        // EDGE 10: alone 21, both 12 and 12.
        SoldNews more = of("p100s1;1:110", 3, 0, 3, 0);
        more.news(0, 0);
        is("more", more.on(0, 1, 0), 0);
        is("more", more.on(0, 1, 1), 1);
        is("the other", more.on(0, 2, 0), 1);
        is("the other", more.on(0, 2, 1), 0);
        is("all know", more.on(0, 3, 0), NONE);
        is("nobody knows", more.on(0, 0, 1), NONE);
        // EDGE 7: 3 and 1 make 9 and 3; with the third 2, 1 and 1 make 6, 3 and 3: 9 as before, but 6 instead of 3.
        SoldNews x = of("p100s1;1:107", 3, 0, 1, 0, 1, 0);
        x.news(0, 0);
        isPart("before", p -> x.worth(0, 3, 0, p), 9, 1);
        isPart("then", p -> x.worth(0, 7, 0, p), 6, 1);
        is("the second tells", x.on(0, 3, 0), 1);
        is("the third", x.on(0, 3, 1), 2);
        says("not of it; the least such j");
        // FEES of 99 keep two from dealing: who tells them has no more by it.
        SoldNews y = of("p100s1;1:130", 3, 0, 3, 99, 3, 99, 1, 0);
        y.news(0, 0);
        is("the last one", y.on(0, 1, 0), 0);
        is("the last one", y.on(0, 1, 1), 3);
        y.change(2, 1, 0);
        is("the least one", y.on(0, 1, 1), 2);
        is("one that does not deal tells", y.on(0, 2, 0), 1);
        is("the least one", y.on(0, 2, 1), 0);
    }

    /** Promises 18, 19, 20: of four BUYERS and eight NEWS, all of which are worth much, and were reckoned before. */
    private static void allOthersOfAll() {
        says("ONE MORE: of the others; ON: another j, not of it");
        SoldNews x = of("p500s1;1:900;1:100", 3, 0, 3, 0, 3, 0, 3, 0);
        for (int i = 0; i < 8; i++) {
            x.news(i % 2 == 0 ? 1 : 4, i);
        }
        x.plainly(0);
        for (int news = 0; news < 8; news++) {
            int k = news;
            is("all know news " + news, x.more(news, 15), NONE);
            isPart("all know news " + news, p -> x.pledge(k, 15, p), 0, 1);
            is("all know news " + news, x.on(news, 15, 0), NONE);
            is("all know news " + news, x.on(news, 15, 1), NONE);
            is("nobody knows news " + news, x.on(news, 0, 0), NONE);
            for (int set = 1; set < 15; set++) {
                int least = Integer.numberOfTrailingZeros(~set);
                is("the least not of " + set, x.more(news, set), least);
                is("the least of " + set, x.on(news, set, 0), Integer.numberOfTrailingZeros(set));
                is("the least not of " + set, x.on(news, set, 1), least);
            }
        }
    }

    /** Promise 21. */
    private static void shutOut() {
        says("SHUT OUT: what a BUYER MAKES more when it knows alone than when all know");
        SoldNews one = of("p0s1;1:999", 3, 0);
        one.news(0, 0);
        isPart("alone it is all", p -> one.shut(0, 0, p), 0, 1);
        SoldNews x = of("p0s1;1:999", 3, 0, 3, 0, 3, 0, 3, 99);
        x.news(0, 0);
        for (int buyer = 0; buyer < 4; buyer++) {
            int b = buyer;
            isPart("nine steps of others: " + b, p -> x.shut(0, b, p), 27, 1);
        }
        isNo("no such BUYER", p -> x.shut(0, 4, p), P_UNKNOWN);
        isNo("no such BUYER", p -> x.shut(0, -1, p), P_UNKNOWN);
        SoldNews still = of("p10s1;1:10", 3, 0, 3, 0);
        still.news(0, 0);
        isPart("nothing", p -> still.shut(0, 0, p), 0, 1);
    }

    /** Promise 22. */
    private static void toldWrongly() {
        says("what a BUYER of a SET makes in a CASE, if a SIGN was heard, and all of the SET deal as for that");
        SoldNews x = of("p500s9;1:999;1:0;1:500;1:600", 3, 99, 3, 0);
        x.news(1, 0);
        x.news(4, 100);
        x.news(4, 10);
        x.news(3, 0);
        // 3 and 3 steps: the price 554, or 446.
        int[][] made = {{445, -554, -54, 46}, {-553, 446, -54, -154}};
        for (int sign = 0; sign < 2; sign++) {
            for (int c = 0; c < 4; c++) {
                int s = sign;
                int k = c;
                isPart("SIGN " + s + " in " + k, p -> x.wrongly(0, 3, s, k, 1, p), 3L * made[s][k], 1);
                isPart("with a FEE", p -> x.wrongly(0, 3, s, k, 0, p), 3L * made[s][k] - 297, 1);
                isPart("a BLUR", p -> x.wrongly(3, 3, s, k, 1, p), 3L * made[s][k], 1);
                isPart("nobody", p -> x.wrongly(0, 0, s, k, 1, p), 0, 1);
                isPart("not of the SET", p -> x.wrongly(0, 1, s, k, 1, p), 0, 1);
            }
            int s = sign;
            isNo("no such CASE", p -> x.wrongly(0, 3, s, 4, 0, p), P_UNKNOWN);
            isNo("no such CASE", p -> x.wrongly(0, 3, s, NONE, 0, p), P_UNKNOWN);
        }
        says("(Of LATE: BASE as it is in that CASE.)");
        // Wholly late: BASE is VALUE.
        is("wholly late", x.rests(1, 2, 0, 1), dealt(0, 0));
        isPart("wholly late", p -> x.wrongly(1, 2, 0, 1, 1, p), 0, 1);
        // BASE 549.9, 450, 500, 510; the price 54 above.
        isPart("late rightly", p -> x.wrongly(2, 3, 0, 0, 1, p), 11853, 10);
        isPart("late wrongly", p -> x.wrongly(2, 3, 0, 1, 1, p), -1512, 1);
        isPart("late in a CASE of BASE", p -> x.wrongly(2, 3, 0, 2, 1, p), -162, 1);
        isPart("late in another CASE", p -> x.wrongly(2, 3, 0, 3, 1, p), 108, 1);
    }

    /** Promise 23. */
    private static void shown() {
        says("SHOWN: two SIGNS that can be heard look alike, if STEPS together that are DEALT are the same");
        SoldNews x = of("p100s1;1:100;1:102;1:104;1:106", 3, 0);
        x.news(1, 0);
        x.news(0, 0);
        is("four unlike", x.shown(0, 1), 4);
        is("nobody deals", x.shown(0, 0), 1);
        is("one SIGN", x.shown(1, 1), 1);
        x.change(0, 0, 2);
        is("two steps at most", x.shown(0, 1), 3);
        x.change(0, 0, 1);
        is("one step at most", x.shown(0, 1), 2);
        x.change(0, 1, 99);
        is("no step", x.shown(0, 1), 1);
        SoldNews one = of("p100s1;1:130", 3, 0);
        one.news(1, 0);
        one.news(2, 3);
        is("one CASE", one.shown(0, 1), 1);
        is("one CASE of GROUP 3", one.shown(1, 1), 1);
        says("SIGNS that can be heard: others are not counted");
        SoldNews two = of("p100s1;1:130;1:140;1:70", 3, 0);
        two.news(1, 0);
        is("3, 3 and -3", two.shown(0, 1), 2);
        two.news(2, 3 + 2 * 4 + 3 * 16);
        // GROUP 2 of 140: 3 steps; GROUP 3 of 130 and 70: none, but that is not as of SIGNS 0 and 1.
        is("SIGNS 2 and 3", two.shown(1, 1), 2);
        is("SIGNS 2 and 3, nobody dealing", two.shown(1, 0), 1);
        isPart("thought, nobody dealing", p -> two.thought(1, 0, 3, p), 340, 3);
        is("nobody deals", one.shown(1, 0), 1);
        isPart("thought, nobody dealing", p -> one.thought(1, 0, 3, p), 130, 1);
        says("STEPS together, not of each");
        // EDGE 0: one buys a step, one sells one; EDGE 1: a step of SLOPE 2 makes less than none.
        SoldNews each = of("p100s2;1:100;1:101", 1, 0, 1, 0);
        each.news(1, 0);
        is("one buys, one sells", each.rests(0, 3, 0, 1), dealt(1, -1));
        is("nobody deals", each.rests(0, 3, 1, 1), dealt(0, 0));
        is("alike", each.shown(0, 3), 1);
        isPart("thought alike", p -> each.thought(0, 3, 0, p), 201, 2);
        says("STEPS together: buying is not selling");
        SoldNews both = of("p100s1;1:110;1:90", 1, 0, 1, 0);
        both.news(1, 0);
        is("2 and -2", both.shown(0, 3), 2);
        is("1 and -1", both.shown(0, 1), 2);
    }

    /** Promise 24. */
    private static void thought() {
        says("THOUGHT: what VALUE is on an average (over all SIGNS that look like it)");
        SoldNews x = of("p100s1;1:100;2:102;3:104;4:106", 3, 0);
        x.news(1, 0);
        for (int sign = 0; sign < 4; sign++) {
            int s = sign;
            isPart("unlike " + s, p -> x.thought(0, 1, s, p), 100 + 2 * s, 1);
            isPart("nobody deals " + s, p -> x.thought(0, 0, s, p), 104, 1);
        }
        x.change(0, 0, 2);
        isPart("the last two alike", p -> x.thought(0, 1, 2, p), 736, 7);
        isPart("the last two alike", p -> x.thought(0, 1, 3, p), 736, 7);
        isPart("the first two are not", p -> x.thought(0, 1, 1, p), 102, 1);
        x.change(0, 0, 1);
        isPart("the last three alike", p -> x.thought(0, 1, 1, p), 940, 9);
        isPart("the first is not", p -> x.thought(0, 1, 0, p), 100, 1);
        SoldNews least = of("p0s1;1:0", 3, 0);
        least.news(0, 0);
        isPart("the least VALUE", p -> least.thought(0, 1, 0, p), 0, 1);
        SoldNews most = of("p0s1;99:999", 3, 0);
        most.news(0, 0);
        isPart("the greatest VALUE", p -> most.thought(0, 1, 0, p), 999, 1);
        isNo("a SIGN above", p -> most.thought(0, 1, 4, p), P_OUTSIDE);
        isNo("a SIGN below", p -> most.thought(0, 1, -1, p), P_OUTSIDE);
        says("of a BLUR each SIGN by how often it is heard");
        SoldNews blur = of("p100s1;1:130;3:90", 3, 0);
        blur.news(3, 20);
        // SIGN 0: 1 by 80 and 3 by 20: 130 by 80 and 90 by 60.
        isPart("a BLUR", p -> blur.thought(0, 1, 0, p), 790, 7);
        isPart("a BLUR, nobody dealing", p -> blur.thought(0, 0, 0, p), 100, 1);
        SoldNews wide = blurOfFour();
        isPart("four alike, nobody dealing", p -> wide.thought(0, 0, 3, p), 103, 1);
        int[] values = {1496, 1531, 1559, 1594};
        for (int sign = 0; sign < 4; sign++) {
            int k = sign;
            isPart("four unlike: " + k, p -> wide.thought(0, 1, k, p), values[k], 15);
        }
    }

    /** Promise 25. */
    private static void bound() {
        says("THE BOUND: the most that x times (VALUE less BASE less SLOPE times x) can be, x of at most all LIMITS together");
        // EDGE 12: x 0, 1, .. make 0, 11, 20, 27, 32, 35, 36, 35.
        int[] most = {0, 11, 20, 27, 32, 35, 36, 36, 36, 36, 36, 36, 36};
        int[][] limits = {{}, {1}, {2}, {3}, {3, 1}, {3, 2}, {3, 3}, {3, 3, 1}, {3, 3, 2}, {3, 3, 3}, {3, 3, 3, 1},
            {3, 3, 3, 2}, {3, 3, 3, 3}};
        for (int i = 0; i < limits.length; i++) {
            SoldNews up = with("p100s1;7:112");
            SoldNews down = with("p100s1;7:88");
            SoldNews wide = with("p0s9;7:999");
            SoldNews far = with("p999s9;7:0");
            for (int limit : limits[i]) {
                for (SoldNews x : new SoldNews[] {up, down, wide, far}) {
                    x.buyer(limit, 99);
                }
            }
            int due = most[i];
            long great = i * (999 - 9L * i);
            isPart("buying " + i, p -> up.bound(p), due, 1);
            isPart("selling " + i, p -> down.bound(p), due, 1);
            isPart("the greatest " + i, p -> wide.bound(p), great, 1);
            isPart("the least " + i, p -> far.bound(p), great, 1);
        }
        SoldNews even = of("p100s1;7:100", 3, 0);
        isPart("no EDGE", p -> even.bound(p), 0, 1);
        SoldNews little = of("p100s9;7:109;7:91", 3, 0);
        isPart("EDGE as SLOPE", p -> little.bound(p), 0, 1);
        SoldNews just = of("p100s9;7:110;7:90", 3, 0);
        isPart("EDGE one above SLOPE", p -> just.bound(p), 1, 1);
        says("x a whole number");
        SoldNews half = of("p100s2;1:103", 3, 0);
        isPart("between 0 and 1 and a half", p -> half.bound(p), 1, 1);
    }

    private static void boundOfAWeight() {
        says("THE BOUND: over all CASES, by WEIGHTS (FEES are not looked at)");
        SoldNews x = of("p100s1;1:102;2:104;3:96;94:100", 3, 0);
        // 1, 4 and 4, by 1, 2 and 3, of 100.
        isPart("four CASES", p -> x.bound(p), 21, 100);
        x.change(0, 1, 99);
        isPart("with a FEE", p -> x.bound(p), 21, 100);
        x.change(0, 0, 1);
        // 1, 3 and 3.
        isPart("with another LIMIT", p -> x.bound(p), 4, 25);
        isOutside("bound", p -> x.bound(p));
    }

    /** Promise 26. */
    private static void days() {
        says("Days (1 to 100) RUN one behind the other by a SEED");
        SoldNews x = of("p0s1;1:999", 3, 0, 3, 0, 3, 0, 3, 0);
        x.news(0, 0);
        long seed = 7;
        for (int days = 1; days <= 100; days++) {
            seed = next(seed);
            is("the SEED then", x.run(0, 15, 7, days, 0), seed);
            is("STEPS of all", x.run(0, 15, 7, days, 1), 12 * days);
            is("still days", x.run(0, 15, 7, days, 2), 0);
            is("still days of nobody", x.run(0, 0, 7, days, 2), days);
        }
        for (int days : new int[] {0, 101, -1, LOW, HIGH}) {
            is("days " + days, x.run(0, 15, 7, days, 0), OUTSIDE);
        }
        says("OUTSIDE: seed (below 0)");
        is("0", x.run(0, 15, 0, 1, 0), 12345);
        is("1", x.run(0, 15, 1, 1, 0), 1103527590);
        is("the greatest", x.run(0, 15, HIGH, 1, 0), (2147483648L - 1103515245 + 12345) % 2147483648L);
        is("-1", x.run(0, 15, -1, 1, 0), OUTSIDE);
        is("the least", x.run(0, 15, LOW, 1, 0), OUTSIDE);
        says("what = 0 the SEED then, 1 STEPS, 2 days on which nobody deals");
        is("below", x.run(0, 15, 0, 1, -1), OUTSIDE);
        is("above", x.run(0, 15, 0, 1, 3), OUTSIDE);
        says("sizes of x");
        SoldNews down = of("p999s1;1:0", 3, 0, 1, 0);
        down.news(0, 0);
        is("all sell", down.run(0, 3, 0, 100, 1), 400);
        is("one sells", down.run(0, 2, 0, 100, 1), 100);
        says("days on which nobody deals");
        SoldNews both = of("p100s1;1:100", 1, 0, 1, 0);
        both.news(0, 0);
        // EDGE 0: one buys and one sells is at rest, and the least number of like ones.
        is("one buys, one sells", both.run(0, 3, 0, 9, 1), 18);
        is("one buys, one sells", both.run(0, 3, 0, 9, 2), 0);
    }

    /** The first SEED from which DRAWS of the told kinds come as told: d, from, below; and again. */
    private static int seedOf(int... draws) {
        for (int first = 0; first < 10000000; first++) {
            long seed = first;
            boolean is = true;
            for (int i = 0; is && i < draws.length; i += 2) {
                seed = next(seed);
                is = seed / 65536 % draws[i] == draws[i + 1];
            }
            if (is) {
                return first;
            }
        }
        throw new IllegalStateException("no such seed");
    }

    private static void drawsOfCases() {
        says("a DRAW of all WEIGHTS together: CASE 0, if it is less than its WEIGHT, and so on");
        SoldNews x = of("p100s1;1:102;2:104;3:106;4:100", 3, 0);
        x.news(1, 0);
        int[] steps = {1, 2, 2, 3, 3, 3, 0, 0, 0, 0};
        for (int draw = 0; draw < 10; draw++) {
            int seed = seedOf(10, draw);
            is("draw " + draw, x.run(0, 1, seed, 1, 1), steps[draw]);
            is("draw " + draw, x.run(0, 1, seed, 1, 2), steps[draw] == 0 ? 1 : 0);
            is("draw " + draw, x.run(0, 1, seed, 1, 0), next(seed));
        }
        says("the next SEED, by 65536 (rounded down), its rest by d");
        SoldNews most = of("p100s1;99:102;99:104;99:106;99:100", 3, 0);
        most.news(1, 0);
        int[] ends = {0, 98, 99, 197, 198, 296, 297, 395};
        for (int i = 0; i < ends.length; i++) {
            is("draw " + ends[i], most.run(0, 1, seedOf(396, ends[i]), 1, 1), (i / 2 + 1) % 4);
        }
        says("a DRAW with one CASE, too");
        SoldNews one = of("p100s1;1:102", 3, 0);
        one.news(4, 0);
        is("the next SEED", one.run(0, 1, 5, 1, 0), next(5));
        is("the one CASE", one.run(0, 1, 5, 1, 1), 1);
    }

    private static void drawsOfABlur() {
        says("of a BLUR a DRAW of 100: if it is less than n, another CASE is heard: a DRAW of CASES less 1: the so many-th other");
        SoldNews x = blurOfFour();
        for (int sign = 0; sign < 4; sign++) {
            is("dealt for SIGN " + sign, x.rests(0, 1, sign, 1), 3 + sign);
        }
        for (int c = 0; c < 4; c++) {
            for (int draw : new int[] {40, 41, 99}) {
                int seed = seedOf(4, c, 100, draw);
                is("CASE " + c + ", " + draw, x.run(0, 1, seed, 1, 1), c);
                is("CASE " + c + ", " + draw, x.run(0, 1, seed, 1, 0), next(next(seed)));
            }
            for (int draw : new int[] {0, 39}) {
                for (int other = 0; other < 3; other++) {
                    int seed = seedOf(4, c, 100, draw, 3, other);
                    is("CASE " + c + ", " + draw + ", " + other, x.run(0, 1, seed, 1, 1), other < c ? other : other + 1);
                    is("CASE " + c + ", " + draw + ", " + other, x.run(0, 1, seed, 1, 0), next(next(next(seed))));
                }
            }
        }
    }

    private static void drawsOfTwoCases() {
        says("of a BLUR, with two CASES or more, a DRAW of 100 (with one CASE none)");
        SoldNews one = of("p100s1;1:102", 3, 0);
        for (int n : new int[] {0, 100}) {
            int news = one.news(3, n);
            is("one CASE of " + n, one.run(news, 1, 5, 1, 0), next(5));
            is("one CASE of " + n, one.run(news, 1, 5, 1, 1), 1);
        }
        SoldNews two = of("p100s1;1:104;1:99", 3, 0);
        int never = two.news(3, 0);
        int always = two.news(3, 100);
        // SIGN 0 by the BLUR of 100 tells CASE 1: no step; SIGN 1 tells CASE 0: two.
        for (int draw : new int[] {0, 99}) {
            for (int c = 0; c < 2; c++) {
                int seed = seedOf(2, c, 100, draw);
                is("never: the SEED", two.run(never, 1, seed, 1, 0), next(next(seed)));
                is("never: STEPS", two.run(never, 1, seed, 1, 1), c == 0 ? 2 : sold(two, never));
                is("always: the SEED, a DRAW of 1, too", two.run(always, 1, seed, 1, 0), next(next(next(seed))));
                is("always: STEPS", two.run(always, 1, seed, 1, 1), c == 0 ? 2 : sold(two, always));
            }
        }
        SoldNews plain = of("p100s1;1:104;1:99", 3, 0);
        for (int kind : new int[] {0, 1, 2, 4}) {
            int news = plain.news(kind, 100);
            is("others have one DRAW a day: kind " + kind, plain.run(news, 1, 5, 2, 0), next(next(5)));
        }
    }

    /** EDGE -1: a step sold makes nothing, as none does, and is the least number. */
    private static int sold(SoldNews x, int news) {
        return Math.abs(x.rests(news, 1, news == 0 ? 1 : 0, 1) - 3);
    }
}
