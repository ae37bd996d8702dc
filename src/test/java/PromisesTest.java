/** Each promise of the document by answers reckoned by hand: ordinary ones, edges, refusals and their order. */
public final class PromisesTest extends Checks {
    public static void main(String[] args) {
        theMarket();
        theFaults();
        buyersAndNews();
        hearing();
        hearingRefused();
        resting();
        making();
        selling();
        oneMore();
        cases();
        looks();
        bounds();
        runs();
        sales();
        nobody();
        digests();
        afterAChange();
        freshly();
        end();
    }

    /** Promises 1, 2, 3, 5, 6, 27. */
    private static void theMarket() {
        SoldNews x = new SoldNews();
        for (int what = 0; what < 5; what++) {
            is("count of a new object", x.count(what), 0);
        }
        for (int what : new int[] {-1, 5, LOW, HIGH}) {
            is("count outside", x.count(what), OUTSIDE);
        }
        is("told without a market", x.told(NONE, 0), UNKNOWN);
        is("told of no case", x.told(0, 0), UNKNOWN);
        is("no market", x.market(), STATE);
        is("blank", x.blank(), 0);
        is("fault", x.fault(), 0);
        is("no letters", x.letters(0), 0);
        is("a letter above 126", x.letters(127), OUTSIDE);
        is("the last byte above 126", x.letters(0x8061616161616161L), OUTSIDE);
        is("a gap", x.letters(0x610061L), OUTSIDE);
        is("a gap at first", x.letters(0x6100L), OUTSIDE);
        is("a gap ahead of the last", x.letters(0x6100000000000061L), OUTSIDE);
        is("nothing came", x.count(3), 0);
        is("126", x.letters(126), 1);
        is("1", x.letters(1), 2);
        is("eight", x.letters(0x6161616161616161L), 10);
        for (int i = 0; i < 6; i++) {
            x.letters(0x6161616161616161L);
        }
        is("58", x.count(3), 58);
        is("61", x.letters(0x616161L), FULL);
        is("outside ahead of full", x.letters(0x61006161616161L), OUTSIDE);
        is("still 58", x.count(3), 58);
        is("60", x.letters(0x6161L), 60);
        is("none more", x.letters(0), 60);
        is("one more", x.letters(0x61), FULL);
        is("blank", x.blank(), 60);
        is("blank again", x.blank(), 0);

        is("letters", write(x, "p7s3;12:345;1:0"), 15);
        is("market", x.market(), 2);
        is("empty page", x.count(3), 0);
        is("cases", x.count(0), 2);
        is("base", x.told(NONE, 0), 7);
        is("slope", x.told(NONE, 1), 3);
        is("weight 0", x.told(0, 0), 12);
        is("value 0", x.told(0, 1), 345);
        is("weight 1", x.told(1, 0), 1);
        is("value 1", x.told(1, 1), 0);
        for (int c : new int[] {2, -2, LOW, HIGH}) {
            is("told unknown", x.told(c, 0), UNKNOWN);
            is("told unknown first", x.told(c, 9), UNKNOWN);
        }
        for (int what : new int[] {-1, 2, LOW, HIGH}) {
            is("told outside", x.told(NONE, what), OUTSIDE);
            is("told outside", x.told(1, what), OUTSIDE);
        }
        x.buyer(1, 1);
        x.news(0, 0);
        write(x, "p8s1;3:4x");
        is("none", x.market(), STATE);
        is("page stays", x.count(3), 9);
        is("market stays", x.told(NONE, 0), 7);
        is("fault", x.fault(), 8);
        is("market stays", x.told(0, 1), 345);
        x.blank();
        write(x, "p000s9;10:007");
        is("another", x.market(), 1);
        is("cases", x.count(0), 1);
        is("base", x.told(NONE, 0), 0);
        is("slope", x.told(NONE, 1), 9);
        is("weight", x.told(0, 0), 10);
        is("value", x.told(0, 1), 7);
        is("case gone", x.told(1, 0), UNKNOWN);
        is("buyers stay", x.count(1), 1);
        is("news stay", x.count(2), 1);
    }

    private static void fault(String text, int place, boolean whole) {
        SoldNews x = new SoldNews();
        write(x, text);
        is("fault of " + text, x.fault(), place);
        is("the page of " + text, x.count(3), text.length());
        int cases = x.market();
        is("market of " + text, cases > 0 ? 1 : cases, whole ? 1 : STATE);
        is("the page of " + text + " behind", x.count(3), whole ? 0 : text.length());
    }

    /** Promises 4, 5. */
    private static void theFaults() {
        fault("", 0, false);
        fault("P", 0, false);
        fault("p", 1, false);
        fault("pp", 1, false);
        fault("ps1;1:1", 1, false);
        fault("p1", 2, false);
        fault("p123", 4, false);
        fault("p1234", 4, false);
        fault("p1s", 3, false);
        fault("p1s0", 3, false);
        fault("p1s;", 3, false);
        fault("p1s9", 4, false);
        fault("p1s91;", 4, false);
        fault("p1s9;", 5, false);
        fault("p1s9;:", 5, false);
        fault("p1s9;0:1", 5, false);
        fault("p1s9;1", 6, false);
        fault("p1s9;10", 7, false);
        fault("p1s9;100:1", 7, false);
        fault("p1s9;99:", 8, false);
        fault("p1s9;9:;", 7, false);
        fault("p1s9;9:1", 8, true);
        fault("p1s9;9:123", 10, true);
        fault("p1s9;9:1234", 10, false);
        fault("p1s9;9:12:", 9, false);
        fault("p1s9;9:12;", 10, false);
        fault("p1s9;9:1;9:1;9:1;9:1", 20, true);
        fault("p1s9;9:1;9:1;9:1;9:12;", 21, false);
        fault("p1s9;9:1;9:1;9:1;9:123", 22, true);
        fault("p1s9;9:1;9:1;9:1;9:1234", 22, false);
        fault("p999s9;99:999;99:999;99:999;99:999", 34, true);
        fault("p1s9;9:1 ", 8, false);
        fault("p1s9;9:/", 7, false);
        fault("p1s9;9::", 7, false);
        fault("p/s9;9:1", 1, false);
        fault("p:s9;9:1", 1, false);
    }

    /** Promises 7, 8, 9, 10. */
    private static void buyersAndNews() {
        SoldNews x = new SoldNews();
        for (int v : new int[] {0, 4, -1, LOW, HIGH}) {
            is("limit outside", x.buyer(v, 0), OUTSIDE);
        }
        for (int v : new int[] {-1, 100, LOW, HIGH}) {
            is("fee outside", x.buyer(1, v), OUTSIDE);
        }
        is("change of none", x.change(0, 0, 1), UNKNOWN);
        is("buyer 0", x.buyer(1, 0), 0);
        is("buyer 1", x.buyer(3, 99), 1);
        is("buyer 2", x.buyer(2, 5), 2);
        is("buyer 3", x.buyer(2, 5), 3);
        is("full", x.buyer(2, 5), FULL);
        is("outside ahead of full", x.buyer(0, 5), OUTSIDE);
        is("buyers", x.count(1), 4);
        is("limit", x.change(1, 0, 1), 3);
        is("limit again", x.change(1, 0, 3), 1);
        is("fee", x.change(1, 1, 0), 99);
        is("fee again", x.change(1, 1, 99), 0);
        is("another's stays", x.change(0, 1, 4), 0);
        for (int b : new int[] {4, -1, LOW, HIGH}) {
            is("change unknown", x.change(b, 7, -7), UNKNOWN);
        }
        for (int v : new int[] {0, 4, LOW, HIGH}) {
            is("change limit outside", x.change(0, 0, v), OUTSIDE);
        }
        for (int v : new int[] {-1, 100, LOW, HIGH}) {
            is("change fee outside", x.change(0, 1, v), OUTSIDE);
        }
        for (int what : new int[] {-1, 2, LOW, HIGH}) {
            is("change what outside", x.change(0, what, 1), OUTSIDE);
        }
        is("nothing changed", x.change(0, 0, 1), 1);
        is("nothing changed", x.change(0, 1, 4), 4);

        is("as of none", x.as(0, 0), UNKNOWN);
        for (int kind : new int[] {-1, 5, LOW, HIGH}) {
            is("kind outside", x.news(kind, 0), OUTSIDE);
        }
        for (int kind = 0; kind < 5; kind++) {
            int most = kind < 3 ? 255 : 100;
            is("n outside", x.news(kind, -1), OUTSIDE);
            is("n outside", x.news(kind, most + 1), OUTSIDE);
            is("news", x.news(kind, most), kind);
        }
        is("none came", x.count(2), 5);
        int[][] are = {{1, 0, 0, 0, 0}, {1, 1, 0, 0, 0}, {1, 0, 1, 0, 0}, {1, 1, 0, 1, 0}, {1, 1, 0, 0, 1}};
        for (int news = 0; news < 5; news++) {
            for (int kind = 0; kind < 5; kind++) {
                is("as " + news + " " + kind, x.as(news, kind), are[news][kind] == 1 ? news : NONE);
            }
            for (int kind : new int[] {-1, 5, LOW, HIGH}) {
                is("as outside", x.as(news, kind), OUTSIDE);
            }
        }
        for (int news : new int[] {-1, 5, LOW, HIGH}) {
            is("as unknown", x.as(news, 9), UNKNOWN);
        }
        for (int news = 5; news < 8; news++) {
            is("news", x.news(1, 0), news);
        }
        is("news full", x.news(1, 0), FULL);
        is("outside ahead of full", x.news(1, 256), OUTSIDE);
        is("as", x.as(7, 1), 7);
        is("news", x.count(2), 8);
    }

    /** Promises 11, 12: BASE 40; weights 3, 5, 2; values 64, 40, 10. NEWS of each kind. */
    private static SoldNews three() {
        SoldNews x = with("p40s2;3:64;5:40;2:10");
        x.news(0, 7);
        x.news(1, 7);
        x.news(2, 2 + 4 * 2 + 16 * 0 + 64 * 1);
        x.news(3, 20);
        x.news(4, 50);
        return x;
    }

    private static void hearing() {
        SoldNews x = three();
        isPart("NEWS heard", p -> x.heard(0, 0, p), 1, 1);
        isPart("NEWS unheard", p -> x.heard(0, 1, p), 0, 1);
        isPart("NEWS edge", p -> x.edge(0, 0, p), 6, 5);
        isNo("NEWS no edge", p -> x.edge(0, 1, p), P_NONE);
        isPart("PLAIN heard", p -> x.heard(1, 0, p), 3, 10);
        isPart("PLAIN heard", p -> x.heard(1, 1, p), 1, 2);
        isPart("PLAIN heard", p -> x.heard(1, 2, p), 1, 5);
        isPart("PLAIN unheard", p -> x.heard(1, 3, p), 0, 1);
        isPart("PLAIN edge", p -> x.edge(1, 0, p), 24, 1);
        isPart("PLAIN edge", p -> x.edge(1, 1, p), 0, 1);
        isPart("PLAIN edge", p -> x.edge(1, 2, p), -30, 1);
        isNo("PLAIN no edge", p -> x.edge(1, 3, p), P_NONE);
        isPart("PART heard", p -> x.heard(2, 0, p), 1, 5);
        isPart("PART unheard", p -> x.heard(2, 1, p), 0, 1);
        isPart("PART heard", p -> x.heard(2, 2, p), 4, 5);
        isPart("PART edge", p -> x.edge(2, 0, p), -30, 1);
        isPart("PART edge", p -> x.edge(2, 2, p), 9, 1);
        isNo("PART no edge", p -> x.edge(2, 1, p), P_NONE);
        // SIGN 1 of the BLUR: 5 by 80 hundredths, 3 and 2 by 10 each.
        isPart("BLUR heard", p -> x.heard(3, 1, p), 9, 20);
        // (3 by 10 times 24, and 2 by 10 times -30) by 450.
        isPart("BLUR edge", p -> x.edge(3, 1, p), 4, 15);
        isPart("BLUR unheard", p -> x.heard(3, 3, p), 0, 1);
        isNo("BLUR no edge", p -> x.edge(3, 3, p), P_NONE);
        isPart("LATE heard", p -> x.heard(4, 2, p), 1, 5);
        SoldNews pair = with("p40s2;3:60;1:20");
        pair.news(3, 20);
        isPart("BLUR of two cases", p -> pair.heard(0, 0, p), 13, 20);
        isPart("BLUR of two cases", p -> pair.edge(0, 0, p), 220, 13);
        isPart("BLUR of two cases", p -> pair.heard(0, 1, p), 7, 20);
        isPart("BLUR of two cases", p -> pair.heard(0, 2, p), 0, 1);
        isPart("LATE edge", p -> x.edge(4, 0, p), 12, 1);
        isPart("LATE edge", p -> x.edge(4, 2, p), -15, 1);
        isNo("LATE no edge", p -> x.edge(4, 3, p), P_NONE);

        SoldNews one = with("p9s1;1:20");
        one.news(3, 100);
        one.news(4, 100);
        isPart("BLUR of one case", p -> one.heard(0, 0, p), 1, 1);
        isPart("BLUR of one case", p -> one.heard(0, 1, p), 0, 1);
        isPart("BLUR of one case", p -> one.edge(0, 0, p), 11, 1);
        isPart("LATE wholly", p -> one.edge(1, 0, p), 0, 1);

        SoldNews four = with("p0s1;1:1;2:10;3:100;4:999");
        four.news(3, 100);
        four.news(3, 0);
        isPart("BLUR wholly", p -> four.heard(0, 3, p), 1, 5);
        isPart("BLUR wholly", p -> four.edge(0, 3, p), 107, 2);
        isPart("BLUR not at all", p -> four.edge(1, 3, p), 999, 1);
        isPart("BLUR not at all", p -> four.heard(1, 3, p), 2, 5);
    }

    private static void hearingRefused() {
        SoldNews x = new SoldNews();
        isNo("unknown ahead of state", p -> x.heard(0, 9, p + 5), P_UNKNOWN);
        isNo("unknown ahead of state", p -> x.edge(0, 9, p + 5), P_UNKNOWN);
        x.news(1, 0);
        isNo("state ahead of outside", p -> x.heard(0, 9, p + 5), P_STATE);
        isNo("state ahead of outside", p -> x.edge(0, 9, p + 5), P_STATE);
        SoldNews y = three();
        for (int news : new int[] {-1, 5, LOW, HIGH}) {
            isNo("unknown", p -> y.heard(news, 0, p), P_UNKNOWN);
            isNo("unknown", p -> y.edge(news, 0, p), P_UNKNOWN);
        }
        for (int sign : new int[] {-1, 4, LOW, HIGH}) {
            isNo("sign", p -> y.heard(0, sign, p), P_OUTSIDE);
            isNo("sign", p -> y.edge(0, sign, p), P_OUTSIDE);
        }
        isOutside("heard", p -> y.heard(0, 0, p));
        isOutside("edge", p -> y.edge(0, 0, p));
        isOutside("edge never heard", p -> y.edge(0, 3, p));
    }

    /** BASE 10, SLOPE 1, always 14: alone 2 steps make 4; two buyers of one slope: 1 and 1, 2 and 1, 1 and 2. */
    private static SoldNews two() {
        SoldNews x = with("p10s1;1:14");
        x.buyer(3, 0);
        x.buyer(3, 0);
        x.news(0, 0);
        return x;
    }

    /** Promise 13. */
    private static void resting() {
        SoldNews x = two();
        is("nobody", x.rests(0, 0, 0, 0), 1);
        is("nobody", x.rests(0, 0, 0, 1), 24);
        is("nobody", x.rests(0, 0, 0, 10), 24);
        is("nobody", x.rests(0, 0, 0, 11), NONE);
        is("alone", x.rests(0, 1, 0, 0), 1);
        is("alone", x.rests(0, 1, 0, 1), 5 + 21);
        is("the other alone", x.rests(0, 2, 0, 1), 3 + 35);
        // At rest: 1 and 1 (2 each; 2 by one would be 2, too), 2 and 1 (2, 1), 1 and 2.
        is("both", x.rests(0, 3, 0, 0), 3);
        is("both first", x.rests(0, 3, 0, 10), 4 + 28);
        is("both second", x.rests(0, 3, 0, 11), 5 + 28);
        is("both third", x.rests(0, 3, 0, 12), 4 + 35);
        is("both no fourth", x.rests(0, 3, 0, 13), NONE);
        is("both none at last", x.rests(0, 3, 0, 99), NONE);
        is("both dealt", x.rests(0, 3, 0, 1), 4 + 28);
        for (int what : new int[] {0, 1, 10, 99}) {
            is("never heard", x.rests(0, 3, 1, what), NONE);
        }
        for (int what : new int[] {-1, 2, 9, 100, LOW, HIGH}) {
            is("what outside", x.rests(0, 3, 0, what), OUTSIDE);
            is("what outside, never heard", x.rests(0, 3, 1, what), OUTSIDE);
        }
        for (int set : new int[] {-1, 4, LOW, HIGH}) {
            is("set outside", x.rests(0, set, 0, 0), OUTSIDE);
        }
        for (int sign : new int[] {-1, 4, LOW, HIGH}) {
            is("sign outside", x.rests(0, 3, sign, 0), OUTSIDE);
        }
        for (int news : new int[] {-1, 1, LOW, HIGH}) {
            is("news unknown", x.rests(news, 9, 9, 5), UNKNOWN);
        }
        // Of like ones the least number: 1 and 0 make what 0 and 1 make.
        SoldNews y = with("p10s2;1:13");
        y.buyer(1, 0);
        y.buyer(1, 0);
        y.news(0, 0);
        is("one of two", y.rests(0, 3, 0, 0), 2);
        is("one of two", y.rests(0, 3, 0, 1), 4 + 21);
        is("the other of two", y.rests(0, 3, 0, 11), 3 + 28);
        // The LIMIT stops the first, the FEE the second; below BASE both sell.
        SoldNews z = with("p100s1;1:0");
        z.buyer(1, 0);
        z.buyer(3, 99);
        z.buyer(2, 98);
        z.news(0, 0);
        is("selling", z.rests(0, 7, 0, 1), 2 + 21 + 147);
        is("selling alone", z.rests(0, 4, 0, 1), 3 + 21 + 98 + 0);
        is("selling without gain", z.rests(0, 4, 0, 0), 1);
        SoldNews s = new SoldNews();
        s.news(0, 0);
        is("state ahead of outside", s.rests(0, 9, 9, 5), STATE);
        is("unknown ahead of state", s.rests(1, 9, 9, 5), UNKNOWN);
    }

    /** Promises 14, 15. */
    private static void making() {
        SoldNews x = with("p10s1;1:14;3:8");
        x.buyer(2, 1);
        x.buyer(3, 0);
        x.news(1, 0);
        x.news(0, 0);
        // x 2 and -1: the price 11; x 2 by 14 less 11, less 2 of FEES.
        isPart("makes", p -> x.makes(0, 0, 5 + 14, 0, p), 4, 1);
        isPart("makes", p -> x.makes(0, 0, 5 + 14, 1, p), -3, 1);
        isPart("makes", p -> x.makes(0, 1, 5 + 14, 1, p), 3, 1);
        isPart("makes on an average", p -> x.makes(1, 0, 5 + 14, 0, p), -5, 1);
        isPart("makes on an average", p -> x.makes(1, 0, 2 + 21, 0, p), -3, 2);
        isPart("makes nothing", p -> x.makes(0, 0, 24, 0, p), 0, 1);
        isNo("never heard", p -> x.makes(0, 2, 24, 0, p), P_NONE);
        isNo("beyond a LIMIT", p -> x.makes(0, 0, 6 + 21, 1, p), P_OUTSIDE);
        isNo("beyond a LIMIT below", p -> x.makes(0, 0, 0 + 21, 1, p), P_OUTSIDE);
        isPart("at a LIMIT", p -> x.makes(0, 0, 5 + 42, 1, p), -3, 1);
        isPart("at a LIMIT below", p -> x.makes(0, 0, 1 + 0, 1, p), -27, 1);
        SoldNews wide = two();
        isPart("both sell three", p -> wide.makes(0, 0, 0, 1, p), -30, 1);
        isPart("both buy three", p -> wide.makes(0, 0, 48, 1, p), -6, 1);
        for (int dealings : new int[] {49, 24 + 49, -1, LOW, HIGH}) {
            isNo("dealings outside", p -> x.makes(0, 0, dealings, 0, p), P_OUTSIDE);
            isNo("outside ahead of never", p -> x.makes(0, 3, dealings, 0, p), P_OUTSIDE);
        }
        for (int sign : new int[] {-1, 4, LOW, HIGH}) {
            isNo("sign outside", p -> x.makes(0, sign, 24, 0, p), P_OUTSIDE);
        }
        isOutside("makes", p -> x.makes(0, 0, 24, 0, p));
        isOutside("worth", p -> x.worth(0, 0, 0, p));
        for (int none : new int[] {-1, 2, LOW, HIGH}) {
            isNo("news unknown", p -> x.makes(none, 9, -1, 9, p + 5), P_UNKNOWN);
            isNo("news unknown", p -> x.worth(none, 9, 9, p + 5), P_UNKNOWN);
            isNo("buyer unknown ahead of outside", p -> x.makes(0, 9, -1, none, p + 5), P_UNKNOWN);
            isNo("buyer unknown ahead of outside", p -> x.worth(0, 9, none, p + 5), P_UNKNOWN);
        }
        for (int set : new int[] {-1, 4, LOW, HIGH}) {
            isNo("set outside", p -> x.worth(0, set, 0, p), P_OUTSIDE);
        }
        // Alone: EDGE 4: 1 step makes 2, 2 steps make 2; of EDGE -2: 1 step sold makes 0.
        isPart("worth alone", p -> x.worth(0, 1, 0, p), 1, 2);
        // Without a FEE: of EDGE 4 2 steps make 4; of EDGE -2 one step sold makes 1.
        isPart("worth of the other", p -> x.worth(0, 2, 1, p), 7, 4);
        isPart("not of the set", p -> x.worth(0, 2, 0, p), 0, 1);
        isPart("nobody", p -> x.worth(0, 0, 0, p), 0, 1);
        SoldNews s = new SoldNews();
        s.news(0, 0);
        isNo("state ahead of buyer", p -> s.makes(0, 9, -1, 9, p + 5), P_STATE);
        isNo("state ahead of buyer", p -> s.worth(0, 9, 9, p + 5), P_STATE);
        isNo("unknown ahead of state", p -> s.makes(1, 9, -1, 9, p + 5), P_UNKNOWN);
        isNo("unknown ahead of state", p -> s.worth(1, 9, 9, p + 5), P_UNKNOWN);
    }

    /** Promises 16, 17: a wide edge, so that all deal to their LIMITS. */
    private static void selling() {
        SoldNews x = with("p100s1;1:130;1:70");
        x.buyer(3, 0);
        x.buyer(1, 0);
        is("no news told", x.plainly(0), NONE);
        x.news(0, 0);
        x.news(1, 0);
        x.news(2, 1);
        // Alone 3 steps make 81, 1 step 29; both 3 by 26 and 1 by 26: 104, at one price 52.
        isPart("worth", p -> x.worth(1, 3, 0, p), 78, 1);
        isPart("worth", p -> x.worth(1, 3, 1, p), 26, 1);
        is("whom of no news", x.whom(0, 0), 0);
        is("whom at one price of no news", x.whom(0, 1), 0);
        is("whom", x.whom(1, 0), 3);
        is("whom at one price", x.whom(1, 1), 1);
        is("whom of a part", x.whom(2, 0), 3);
        is("how plainly", x.plainly(0), 1);
        is("how plainly at one price", x.plainly(1), 1);
        is("done", x.count(4), 8);
        for (int how : new int[] {-1, 2, LOW, HIGH}) {
            is("how outside", x.whom(0, how), OUTSIDE);
            is("how outside", x.plainly(how), OUTSIDE);
        }
        for (int news : new int[] {-1, 3, LOW, HIGH}) {
            is("news unknown", x.whom(news, 9), UNKNOWN);
        }
        is("refused is not done", x.count(4), 8);
        // Of like ones the least: each alone makes what the other makes.
        SoldNews y = with("p10s2;1:13");
        y.buyer(1, 0);
        y.buyer(1, 0);
        y.news(0, 0);
        y.news(1, 0);
        is("the least set", y.whom(0, 0), 1);
        is("the least set at one price", y.whom(0, 1), 1);
        is("the least news", y.plainly(0), 0);
        is("the least news at one price", y.plainly(1), 0);
        SoldNews s = new SoldNews();
        is("state ahead of outside", s.plainly(9), STATE);
        is("unknown ahead of state", s.whom(0, 9), UNKNOWN);
        s.news(0, 0);
        is("state ahead of outside", s.whom(0, 9), STATE);
        is("none done", s.count(4), 0);
    }

    /** Promises 18, 19, 20, 21. */
    private static void oneMore() {
        SoldNews x = with("p100s1;1:130;1:70");
        x.buyer(3, 0);
        x.buyer(1, 0);
        x.buyer(1, 99);
        x.buyer(1, 0);
        x.news(1, 0);
        x.news(0, 0);
        is("the one that makes most", x.more(0, 0), 0);
        isPart("pledge", p -> x.pledge(0, 0, p), 81, 1);
        is("the least of like ones", x.more(0, 1), 1);
        isPart("pledge", p -> x.pledge(0, 1, p), 26, 1);
        is("the other", x.more(0, 3), 3);
        isPart("pledge", p -> x.pledge(0, 3, p), 25, 1);
        is("nobody would pay", x.more(0, 11), NONE);
        isPart("no pledge", p -> x.pledge(0, 11, p), 0, 1);
        is("nobody is left", x.more(0, 15), NONE);
        isPart("no pledge", p -> x.pledge(0, 15, p), 0, 1);
        is("no news", x.more(1, 0), NONE);
        isPart("no pledge", p -> x.pledge(1, 0, p), 0, 1);
        // 0 and 1 make 104, 0 alone 81; then 0 and 3 make 100 instead of 78.
        is("who tells", x.on(0, 1, 0), 0);
        is("whom", x.on(0, 1, 1), 1);
        is("who tells", x.on(0, 3, 0), 0);
        is("whom", x.on(0, 3, 1), 3);
        is("nobody tells", x.on(0, 11, 0), NONE);
        is("nobody is told", x.on(0, 11, 1), NONE);
        is("nobody knows", x.on(0, 0, 0), NONE);
        is("the least who tells", x.on(0, 10, 0), 1);
        is("the least whom", x.on(0, 10, 1), 0);
        // The FEE keeps 2 from dealing, but it tells 0.
        is("without dealing", x.on(0, 4, 0), 2);
        is("without dealing", x.on(0, 4, 1), 0);
        // Alone 81 and 29; of all 3 by 25 and 1 by 25.
        isPart("shut out", p -> x.shut(0, 0, p), 6, 1);
        isPart("shut out", p -> x.shut(0, 1, p), 4, 1);
        isPart("shut out", p -> x.shut(0, 2, p), 0, 1);
        shutOut();
        oneMoreRefused(x);
    }

    private static void shutOut() {
        SoldNews x = two();
        // Alone 2 steps make 4, with both 1 and 1 make 2.
        isPart("shut out", p -> x.shut(0, 0, p), 2, 1);
        SoldNews t = with("p10s1;1:11;2:13");
        t.buyer(3, 0);
        t.buyer(3, 0);
        t.news(1, 0);
        // EDGE 3: alone 1 or 2 steps make 2; of both 2 and 0 is at rest, too, and the least of like ones.
        is("both", t.rests(0, 3, 1, 0), 3);
        is("both dealt", t.rests(0, 3, 1, 1), 5 + 21);
        isPart("shut out", p -> t.shut(0, 0, p), 0, 1);
        isPart("shut out", p -> t.shut(0, 1, p), 4, 3);
        // EDGE -3 and a half: one sold alone makes 5 halves, of both each 3 halves, less the FEE.
        SoldNews u = with("p10s1;1:10;1:3");
        u.buyer(1, 0);
        u.buyer(3, 1);
        u.news(0, 0);
        is("selling both", u.rests(0, 3, 0, 1), 2 + 14);
        isPart("shut out", p -> u.shut(0, 0, p), 1, 1);
        isPart("shut out", p -> u.shut(0, 1, p), 1, 1);
    }

    private static void oneMoreRefused(SoldNews x) {
        isOutside("pledge", p -> x.pledge(0, 0, p));
        isOutside("shut", p -> x.shut(0, 0, p));
        for (int set : new int[] {-1, 16, LOW, HIGH}) {
            is("set outside", x.more(0, set), OUTSIDE);
            isNo("set outside", p -> x.pledge(0, set, p), P_OUTSIDE);
            is("set outside", x.on(0, set, 0), OUTSIDE);
        }
        for (int what : new int[] {-1, 2, LOW, HIGH}) {
            is("what outside", x.on(0, 0, what), OUTSIDE);
        }
        for (int news : new int[] {-1, 2, LOW, HIGH}) {
            is("news unknown", x.more(news, -1), UNKNOWN);
            isNo("news unknown", p -> x.pledge(news, -1, p + 5), P_UNKNOWN);
            is("news unknown", x.on(news, -1, 9), UNKNOWN);
            isNo("news unknown", p -> x.shut(news, 9, p + 5), P_UNKNOWN);
        }
        for (int buyer : new int[] {-1, 4, LOW, HIGH}) {
            isNo("buyer unknown", p -> x.shut(0, buyer, p + 5), P_UNKNOWN);
        }
        SoldNews s = new SoldNews();
        is("unknown ahead of state", s.more(0, 9), UNKNOWN);
        s.news(0, 0);
        is("state ahead of outside", s.more(0, 9), STATE);
        isNo("state ahead of outside", p -> s.pledge(0, 9, p + 5), P_STATE);
        is("state ahead of outside", s.on(0, 9, 9), STATE);
        isNo("state ahead of buyer", p -> s.shut(0, 9, p + 5), P_STATE);
    }

    /** Promise 22. */
    private static void cases() {
        SoldNews x = with("p100s1;1:130;1:70");
        x.buyer(3, 2);
        x.buyer(1, 0);
        x.news(1, 0);
        x.news(4, 10);
        x.news(3, 0);
        // 3 and 1 steps: the price 104.
        isPart("told rightly", p -> x.wrongly(0, 3, 0, 0, 0, p), 72, 1);
        isPart("told wrongly", p -> x.wrongly(0, 3, 0, 1, 0, p), -108, 1);
        isPart("the other", p -> x.wrongly(0, 3, 0, 1, 1, p), -34, 1);
        isPart("not of the set", p -> x.wrongly(0, 2, 0, 1, 0, p), 0, 1);
        isPart("alone", p -> x.wrongly(0, 2, 1, 0, 1, p), -31, 1);
        // BASE 103 in CASE 0, 97 in CASE 1.
        isPart("LATE", p -> x.wrongly(1, 3, 0, 0, 1, p), 23, 1);
        isPart("LATE wrongly", p -> x.wrongly(1, 3, 0, 1, 1, p), -31, 1);
        isPart("BLUR", p -> x.wrongly(2, 3, 0, 1, 1, p), -34, 1);
        isNo("never heard", p -> x.wrongly(0, 3, 2, 1, 1, p), P_NONE);
        isOutside("wrongly", p -> x.wrongly(0, 3, 0, 0, 0, p));
        isOutside("wrongly never heard", p -> x.wrongly(0, 3, 3, 0, 0, p));
        for (int set : new int[] {-1, 4, LOW, HIGH}) {
            isNo("set outside", p -> x.wrongly(0, set, 0, 0, 0, p), P_OUTSIDE);
            isNo("sign outside", p -> x.wrongly(0, 3, set, 0, 0, p), P_OUTSIDE);
        }
        for (int none : new int[] {-1, 2, LOW, HIGH}) {
            isNo("case unknown", p -> x.wrongly(0, -1, -1, none, 0, p + 5), P_UNKNOWN);
            isNo("buyer unknown", p -> x.wrongly(0, -1, -1, 0, none, p + 5), P_UNKNOWN);
        }
        for (int news : new int[] {-1, 3, LOW, HIGH}) {
            isNo("news unknown", p -> x.wrongly(news, -1, -1, 0, 0, p + 5), P_UNKNOWN);
        }
        SoldNews y = with("p10s1;1:15;1:12");
        y.buyer(3, 0);
        y.news(4, 50);
        // BASE 12 and a half: EDGE 2 and a half: 1 step makes 3 halves; in CASE 1 BASE is 11, 1 step makes 0.
        isPart("LATE by halves", p -> y.wrongly(0, 1, 0, 0, 0, p), 3, 2);
        isPart("LATE by halves", p -> y.wrongly(0, 1, 0, 1, 0, p), 0, 1);
        SoldNews s = new SoldNews();
        s.news(0, 0);
        isNo("state ahead of unknown", p -> s.wrongly(0, -1, -1, 9, 9, p + 5), P_STATE);
        isNo("unknown ahead of state", p -> s.wrongly(1, -1, -1, 9, 9, p + 5), P_UNKNOWN);
    }

    /** Promises 23, 24. */
    private static void looks() {
        SoldNews x = with("p100s1;1:130;3:150;2:70;2:100");
        x.buyer(3, 0);
        x.buyer(1, 40);
        x.news(1, 0);
        x.news(0, 0);
        // Buyer 0 deals 3, 3, -3, 0; buyer 1 nothing but in CASE 1, where its FEE pays: 1.
        is("three look unlike", x.shown(0, 1), 3);
        is("four look unlike", x.shown(0, 3), 4);
        is("the other deals but once", x.shown(0, 2), 2);
        is("nobody deals", x.shown(0, 0), 1);
        is("one sign", x.shown(1, 3), 1);
        isPart("alike", p -> x.thought(0, 1, 0, p), 145, 1);
        isPart("alike", p -> x.thought(0, 1, 1, p), 145, 1);
        isPart("unlike", p -> x.thought(0, 3, 0, p), 130, 1);
        isPart("unlike", p -> x.thought(0, 1, 2, p), 70, 1);
        isPart("three alike", p -> x.thought(0, 2, 3, p), 94, 1);
        isPart("all alike", p -> x.thought(0, 0, 3, p), 115, 1);
        isPart("one sign", p -> x.thought(1, 3, 0, p), 115, 1);
        isNo("never heard", p -> x.thought(1, 3, 1, p), P_NONE);
        isOutside("thought", p -> x.thought(0, 0, 0, p));
        isOutside("thought never heard", p -> x.thought(1, 0, 1, p));
        for (int set : new int[] {-1, 4, LOW, HIGH}) {
            is("set outside", x.shown(0, set), OUTSIDE);
            isNo("set outside", p -> x.thought(0, set, 0, p), P_OUTSIDE);
            isNo("sign outside", p -> x.thought(0, 0, set, p), P_OUTSIDE);
        }
        for (int news : new int[] {-1, 2, LOW, HIGH}) {
            is("news unknown", x.shown(news, -1), UNKNOWN);
            isNo("news unknown", p -> x.thought(news, -1, -1, p + 5), P_UNKNOWN);
        }
        SoldNews s = new SoldNews();
        is("unknown ahead of state", s.shown(0, 9), UNKNOWN);
        s.news(0, 0);
        is("state ahead of outside", s.shown(0, 9), STATE);
        isNo("state ahead of outside", p -> s.thought(0, 9, 9, p + 5), P_STATE);
    }

    /** Promise 25. */
    private static void bounds() {
        SoldNews x = new SoldNews();
        isNo("state ahead of outside", p -> x.bound(p + 5), P_STATE);
        write(x, "p10s2;1:21;3:3;1:10");
        x.market();
        isPart("nobody", p -> x.bound(p), 0, 1);
        isOutside("bound", p -> x.bound(p));
        x.buyer(1, 99);
        // One step: 9 and 5.
        isPart("one step", p -> x.bound(p), 24, 5);
        x.buyer(1, 99);
        // Two steps: 11 less 4 twice: 14; -7 and 4 twice: 6.
        isPart("two steps", p -> x.bound(p), 32, 5);
        x.buyer(3, 99);
        // Three steps: 11 less 6: 15; two sold are the most then.
        isPart("five steps", p -> x.bound(p), 33, 5);
    }

    /** Promise 26. Seeds by 1: 1103527590, then 377401575, then 662824084, then 1147902781. */
    private static void runs() {
        SoldNews x = with("p100s1;1:130;1:70");
        x.buyer(3, 0);
        x.buyer(1, 0);
        x.news(1, 0);
        x.news(0, 0);
        x.news(3, 50);
        is("a day's seed", x.run(0, 3, 1, 1, 0), 1103527590);
        is("two days' seed", x.run(0, 3, 1, 2, 0), 377401575);
        is("a blurred day's seed", x.run(2, 3, 0, 1, 0), blurred(0, 50, 2));
        is("the seed of 0", x.run(1, 0, 0, 1, 0), 12345);
        is("the greatest seed", x.run(1, 0, HIGH, 1, 0), next(HIGH));
        is("steps", x.run(0, 3, 1, 10, 1), 40);
        is("steps of one", x.run(0, 1, 1, 100, 1), 300);
        is("still", x.run(0, 1, 1, 100, 2), 0);
        is("still days", x.run(0, 0, 1, 7, 2), 7);
        // EDGE 0: 1 and -1 is at rest, too, makes nothing as 0 and 0 does, and is the least.
        is("no news", x.run(1, 3, 1, 7, 2), 0);
        is("no news", x.run(1, 3, 1, 7, 1), 14);
        is("no news alone", x.run(1, 1, 1, 7, 1), 0);
        byCases();
        SoldNews one = with("p9s1;7:20");
        one.buyer(1, 0);
        one.news(3, 100);
        is("no draw of a blur with one case", one.run(0, 1, 1, 2, 0), 377401575);
        for (int days : new int[] {0, 101, -1, LOW, HIGH}) {
            is("days outside", x.run(0, 0, 0, days, 0), OUTSIDE);
        }
        for (int what : new int[] {-1, 3, LOW, HIGH}) {
            is("what outside", x.run(0, 0, 0, 1, what), OUTSIDE);
        }
        for (int set : new int[] {-1, 4, LOW, HIGH}) {
            is("set outside", x.run(0, set, 0, 1, 0), OUTSIDE);
        }
        for (int seed : new int[] {-1, LOW}) {
            is("seed outside", x.run(0, 0, seed, 1, 0), OUTSIDE);
        }
        for (int news : new int[] {-1, 3, LOW, HIGH}) {
            is("news unknown", x.run(news, -1, -1, 0, 9), UNKNOWN);
        }
        SoldNews s = new SoldNews();
        is("unknown ahead of state", s.run(0, 9, 0, 1, 0), UNKNOWN);
        s.news(0, 0);
        is("state ahead of outside", s.run(0, 9, 0, 1, 0), STATE);
    }

    private static long blurred(long seed, int n, int cases) {
        long heard = next(next(seed));
        return heard / 65536 % 100 < n ? next(heard) : heard;
    }

    /** Steps told by the cases drawn: 1 in CASE 0, none in CASE 1, 3 in CASE 2. */
    private static void byCases() {
        SoldNews x = with("p100s1;2:102;3:100;4:130");
        x.buyer(3, 0);
        x.news(1, 0);
        x.news(3, 40);
        int[] steps = {1, 0, 3};
        int sum = 0;
        int still = 0;
        long seed = 5;
        for (int day = 1; day <= 100; day++) {
            seed = next(seed);
            long draw = seed / 65536 % 9;
            int c = draw < 2 ? 0 : draw < 5 ? 1 : 2;
            sum += steps[c];
            still += steps[c] == 0 ? 1 : 0;
            is("seed by cases", x.run(0, 1, 5, day, 0), seed);
            is("steps by cases", x.run(0, 1, 5, day, 1), sum);
            is("still by cases", x.run(0, 1, 5, day, 2), still);
        }
        // A BLUR of 40 with its EDGES: SIGN 0 by 120, 60, 80; SIGN 1 by 40, 180, 80; SIGN 2 by 40, 60, 240.
        int[] blurredSteps = {3, 3, 3};
        for (int sign = 0; sign < 3; sign++) {
            is("dealt by a blur", x.rests(1, 1, sign, 1), 3 + blurredSteps[sign]);
        }
        SoldNews y = with("p100s1;2:200;3:102;4:0");
        y.buyer(3, 0);
        y.news(3, 40);
        int[] dealt = new int[3];
        for (int sign = 0; sign < 3; sign++) {
            dealt[sign] = Math.abs(y.rests(0, 1, sign, 1) - 3);
        }
        y.change(0, 1, 30);
        dealtOf(y, dealt);
        sum = 0;
        seed = 5;
        for (int day = 1; day <= 60; day++) {
            seed = next(seed);
            long draw = seed / 65536 % 9;
            int c = draw < 2 ? 0 : draw < 5 ? 1 : 2;
            seed = next(seed);
            if (seed / 65536 % 100 < 40) {
                seed = next(seed);
                int other = (int) (seed / 65536 % 2);
                c = other < c ? other : other + 1;
            }
            sum += dealt[c];
            is("blurred seed", y.run(0, 1, 5, day, 0), seed);
            is("blurred steps", y.run(0, 1, 5, day, 1), sum);
        }
    }

    private static void dealtOf(SoldNews y, int[] dealt) {
        for (int sign = 0; sign < 3; sign++) {
            dealt[sign] = Math.abs(y.rests(0, 1, sign, 1) - 3);
        }
    }

    /** Promises 16, 17, 27: forty together. */
    private static void sales() {
        SoldNews x = two();
        for (int i = 0; i < 20; i++) {
            is("whom", x.whom(0, i & 1), 1);
            is("done", x.count(4), 2 * i + 1);
            is("plainly", x.plainly(i & 1), 0);
            is("done", x.count(4), 2 * i + 2);
        }
        is("forty-first", x.whom(0, 0), STATE);
        is("forty-first", x.plainly(0), STATE);
        is("outside ahead of forty", x.whom(0, 2), OUTSIDE);
        is("outside ahead of forty", x.plainly(2), OUTSIDE);
        is("unknown ahead of forty", x.whom(1, 0), UNKNOWN);
        is("done", x.count(4), 40);
        write(x, "p1s1;1:1");
        x.market();
        is("ever", x.whom(0, 0), STATE);
    }

    /** Without BUYERS there is one SET, and one DEALINGS of no figures. */
    private static void nobody() {
        SoldNews x = with("p10s1;1:14");
        x.news(0, 0);
        is("dealt", x.rests(0, 0, 0, 1), 0);
        is("at rest", x.rests(0, 0, 0, 0), 1);
        is("set", x.rests(0, 1, 0, 0), OUTSIDE);
        is("whom", x.whom(0, 0), 0);
        is("more", x.more(0, 0), NONE);
        is("on", x.on(0, 0, 0), NONE);
        is("shown", x.shown(0, 0), 1);
        isPart("thought", p -> x.thought(0, 0, 0, p), 14, 1);
        isPart("pledge", p -> x.pledge(0, 0, p), 0, 1);
        isNo("worth", p -> x.worth(0, 0, 0, p), P_UNKNOWN);
        is("run", x.run(0, 0, 1, 2, 2), 2);
    }

    private static long mix(long... numbers) {
        long h = 359;
        for (long number : numbers) {
            h = 31 * h + number;
        }
        return h;
    }

    /** Promise 28. */
    private static void digests() {
        SoldNews x = new SoldNews();
        is("digest of a new object", x.digest(), mix(0, 0, 0, 0, 0));
        x.letters(0x7061);
        is("digest of letters", x.digest(), mix(0x61, 0x70, 0, 0, 0, 2, 0));
        x.blank();
        x.buyer(3, 0);
        x.buyer(3, 7);
        x.news(4, 9);
        is("digest without a market", x.digest(), mix(3, 0, 3, 7, 4, 9, 0, 2, 1, 0, 0));
        x.change(1, 1, 0);
        x.news(0, 5);
        write(x, "p10s1;2:14;3:10");
        x.market();
        x.letters(0x70);
        x.plainly(0);
        long late = x.rests(0, 3, 0, 1);
        long plain = x.rests(1, 3, 0, 1);
        is("digest", x.digest(), mix(10, 1, 2, 14, 3, 10, 3, 0, 3, 0,
            4, 9, late, 18, NONE, NONE, 0, 5, plain, NONE, NONE, NONE, 8, 5, 0x70, 2, 2, 2, 1, 1));
        long before = x.digest();
        is("refused", x.whom(9, 9), UNKNOWN);
        is("refused", x.buyer(9, 9), OUTSIDE);
        is("refused", x.market(), STATE);
        is("refused", x.letters(-1), OUTSIDE);
        is("refused", x.change(0, 0, 9), OUTSIDE);
        is("refused changes nothing", x.digest(), before);
    }

    private static SoldNews fresh() {
        SoldNews x = with("p100s1;1:130;3:70");
        x.buyer(3, 0);
        x.buyer(1, 0);
        x.news(0, 0);
        x.news(1, 0);
        return x;
    }

    /** Each call as the first that is asked: no other has reckoned ahead of it. */
    private static void freshly() {
        is("rests", fresh().rests(1, 3, 0, 1), 6 + 28);
        isPart("worth", p -> fresh().worth(1, 3, 0, p), 78, 1);
        is("whom", fresh().whom(1, 0), 3);
        is("plainly", fresh().plainly(0), 1);
        is("more", fresh().more(1, 1), 1);
        isPart("pledge", p -> fresh().pledge(1, 1, p), 26, 1);
        is("on", fresh().on(1, 1, 1), 1);
        isPart("shut", p -> fresh().shut(1, 0, p), 3, 1);
        isPart("wrongly", p -> fresh().wrongly(1, 3, 0, 1, 0, p), -102, 1);
        is("shown", fresh().shown(1, 3), 2);
        isPart("thought", p -> fresh().thought(1, 3, 1, p), 70, 1);
        is("run", fresh().run(1, 3, 1, 10, 1), 40);
        is("digest", fresh().digest(), mix(100, 1, 1, 130, 3, 70, 3, 0, 1, 0,
            0, 0, 0 + 14, NONE, NONE, NONE, 1, 0, 6 + 28, 0 + 14, NONE, NONE, 104, 1, 2, 2, 2, 0, 0));
    }

    /** What was dealt ahead of a change tells nothing of what is dealt behind it. */
    private static void afterAChange() {
        SoldNews x = two();
        isPart("alone", p -> x.worth(0, 1, 0, p), 4, 1);
        x.change(0, 0, 1);
        isPart("another LIMIT", p -> x.worth(0, 1, 0, p), 3, 1);
        is("another LIMIT", x.rests(0, 1, 0, 1), 4 + 21);
        x.change(0, 1, 3);
        isPart("another FEE", p -> x.worth(0, 1, 0, p), 0, 1);
        x.change(0, 1, 0);
        x.change(0, 0, 3);
        is("ahead of a buyer", x.rests(0, 0, 0, 1), 24);
        x.buyer(1, 0);
        is("behind a buyer", x.rests(0, 0, 0, 1), 24 + 147);
        is("of the buyer", x.rests(0, 4, 0, 1), 24 + 196);
        write(x, "p10s1;1:6");
        x.market();
        is("another market", x.rests(0, 1, 0, 1), 1 + 21 + 147);
        isPart("another market", p -> x.worth(0, 1, 0, p), 4, 1);
        write(x, "p10s2;1:4;1:16");
        x.market();
        isPart("another market", p -> x.worth(0, 1, 0, p), 0, 1);
    }
}
