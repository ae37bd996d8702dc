import java.util.regex.Matcher;
import java.util.regex.Pattern;

/** Promises 1 to 12, 27, 28: each sentence that names a boundary, by the last inside and the first outside. */
public final class MarketBoundsTest extends Checks {
    /** Sixty letters, none of which a market begins with. */
    private static final String SIXTY = "abcdefghijklmnopqrstuvwxyzabcdefghijklmnopqrstuvwxyzabcdefgh";

    public static void main(String[] args) {
        aNewObject();
        lettersOfAWord();
        aFullPage();
        anEmptyPage();
        everyLetterAtEveryPlace();
        longPages();
        leastAndMost();
        anotherMarket();
        noMarket();
        toldOfEachCase();
        buyersAtTheirEnds();
        changesAtTheirEnds();
        newsAtTheirEnds();
        takenAs();
        plainNews();
        parts();
        blurs();
        late();
        edges();
        counts();
        digests();
        the512thCall();
        end();
    }

    /** Promise 1. */
    private static void aNewObject() {
        says("A new object: no MARKET, no BUYERS");
        SoldNews x = new SoldNews();
        is("count of cases", x.count(0), 0);
        is("count of buyers", x.count(1), 0);
        is("count of news", x.count(2), 0);
        is("count of letters", x.count(3), 0);
        is("count of sales", x.count(4), 0);
        is("digest", x.digest(), DigestSum.of(0, 0, 0, 0, 0));
        is("blank", x.blank(), 0);
        is("fault", x.fault(), 0);
        is("market", x.market(), STATE);
        is("told", x.told(NONE, 0), UNKNOWN);
        is("told", x.told(0, 0), UNKNOWN);
        is("change", x.change(0, 0, 1), UNKNOWN);
        is("as", x.as(0, 0), UNKNOWN);
        isNo("heard", p -> x.heard(0, 0, p), P_UNKNOWN);
        isNo("edge", p -> x.edge(0, 0, p), P_UNKNOWN);
        is("rests", x.rests(0, 0, 0, 0), UNKNOWN);
        isNo("makes", p -> x.makes(0, 0, 0, 0, p), P_UNKNOWN);
        isNo("worth", p -> x.worth(0, 0, 0, p), P_UNKNOWN);
        is("whom", x.whom(0, 0), UNKNOWN);
        is("plainly", x.plainly(0), STATE);
        is("more", x.more(0, 0), UNKNOWN);
        isNo("pledge", p -> x.pledge(0, 0, p), P_UNKNOWN);
        is("on", x.on(0, 0, 0), UNKNOWN);
        isNo("shut", p -> x.shut(0, 0, p), P_UNKNOWN);
        isNo("wrongly", p -> x.wrongly(0, 0, 0, 0, 0, p), P_UNKNOWN);
        is("shown", x.shown(0, 0), UNKNOWN);
        isNo("thought", p -> x.thought(0, 0, 0, p), P_UNKNOWN);
        isNo("bound", p -> x.bound(p), P_STATE);
        is("run", x.run(0, 0, 0, 1, 0), UNKNOWN);
        is("the first buyer", x.buyer(1, 0), 0);
        is("the first news", x.news(0, 0), 0);
        is("the first letter", x.letters(1), 1);
        says("The constants");
        is("NONE", SoldNews.NONE, NONE);
        is("UNKNOWN", SoldNews.UNKNOWN, UNKNOWN);
        is("OUTSIDE", SoldNews.OUTSIDE, OUTSIDE);
        is("STATE", SoldNews.STATE, STATE);
        is("FULL", SoldNews.FULL, FULL);
    }

    /** Promise 2: what stands at place i of a word of letters ahead of it, and nothing behind it. */
    private static long at(int i, long letter) {
        return word("aaaaaaaa".substring(0, i)) | letter << 8 * i;
    }

    private static void lettersOfAWord() {
        for (int i = 0; i < 8; i++) {
            says("up to eight, until a byte that is 0: how many THE PAGE has");
            is("letters " + i, new SoldNews().letters(at(i, 0)), i);
            is("letters with the least at " + i, new SoldNews().letters(at(i, 1)), i + 1);
            says("OUTSIDE: a byte above 126");
            is("126 at " + i, new SoldNews().letters(at(i, 126)), i + 1);
            for (int letter : new int[] {127, 128, 129, 254, 255}) {
                is(letter + " at " + i, new SoldNews().letters(at(i, letter)), OUTSIDE);
                is(letter + " ahead of others at " + i,
                    new SoldNews().letters(word("aaaaaaaa") & ~(255L << 8 * i) | (long) letter << 8 * i), OUTSIDE);
            }
            says("OUTSIDE: one behind a 0 that is not 0");
            for (int j = i + 1; j < 8; j++) {
                for (int letter : new int[] {1, 126, 127, 255}) {
                    is(letter + " at " + j + " behind a 0 at " + i,
                        new SoldNews().letters(at(i, 0) | (long) letter << 8 * j), OUTSIDE);
                }
            }
        }
        says("OUTSIDE: one behind a 0 that is not 0");
        is("all behind a 0", new SoldNews().letters(word("aaaaaaa") << 8), OUTSIDE);
        is("one 0 among eight", new SoldNews().letters(word("aaaaaaaa") & ~(255L << 24)), OUTSIDE);
        is("all bits", new SoldNews().letters(-1L), OUTSIDE);
        is("the sign bit", new SoldNews().letters(Long.MIN_VALUE), OUTSIDE);
        is("the greatest", new SoldNews().letters(Long.MAX_VALUE), OUTSIDE);
        says("the lowest byte first");
        SoldNews x = new SoldNews();
        x.letters('p' | '1' << 8 | 's' << 16 | '2' << 24);
        x.letters(';' | '3' << 8 | ':' << 16 | '4' << 24);
        is("digest", x.digest(), DigestSum.of('p', '1', 's', '2', ';', '3', ':', '4', 0, 0, 0, 8, 0));
        is("market", x.market(), 1);
        is("base", x.told(NONE, 0), 1);
        is("value", x.told(0, 1), 4);
    }

    private static void aFullPage() {
        says("FULL: above 60");
        for (int had = 51; had <= 60; had++) {
            for (int more = 0; more <= 8; more++) {
                SoldNews x = new SoldNews();
                write(x, SIXTY.substring(0, had));
                long due = had + more > 60 ? FULL : had + more;
                is(more + " behind " + had, x.letters(word("zzzzzzzz".substring(0, more))), due);
                is("then there are", x.count(3), due == FULL ? had : due);
            }
        }
        SoldNews x = new SoldNews();
        is("sixty", write(x, SIXTY), 60);
        is("OUTSIDE ahead of FULL", x.letters(127), OUTSIDE);
        is("OUTSIDE ahead of FULL", x.letters(0x6100), OUTSIDE);
        is("OUTSIDE ahead of FULL", x.letters(at(7, 128)), OUTSIDE);
        is("FULL", x.letters(1), FULL);
        is("nothing more", x.letters(0), 60);
        long[] told = new long[65];
        for (int i = 0; i < 60; i++) {
            told[i] = SIXTY.charAt(i);
        }
        told[63] = 60;
        is("the page as it was", x.digest(), DigestSum.of(told));
        is("FULL is not for a page that was emptied", x.blank(), 60);
        is("FULL is not for a page that was emptied", write(x, SIXTY), 60);
    }

    /** Promise 3. */
    private static void anEmptyPage() {
        says("THE PAGE is empty: how many letters it had");
        SoldNews x = new SoldNews();
        is("none", x.blank(), 0);
        x.letters('p');
        is("one", x.blank(), 1);
        is("again", x.blank(), 0);
        is("count", x.count(3), 0);
        is("fault", x.fault(), 0);
        is("market", x.market(), STATE);
        is("digest", x.digest(), DigestSum.of(0, 0, 0, 0, 0));
        write(x, SIXTY);
        is("sixty", x.blank(), 60);
        is("behind nothing", write(x, "p1s2;3:4"), 8);
        is("market", x.market(), 1);
        is("what the market had", x.blank(), 0);
        is("the market stays", x.told(NONE, 1), 2);
    }

    private static final Pattern MARKET = Pattern.compile("p[0-9]{1,3}s[1-9](;[1-9][0-9]?:[0-9]{1,3}){1,4}");

    /** How far a market can begin so. */
    private static int faultOf(String page) {
        for (int size = 1; size <= page.length(); size++) {
            Matcher m = MARKET.matcher(page.substring(0, size));
            if (!m.matches() && !m.hitEnd()) {
                return size - 1;
            }
        }
        return page.length();
    }

    /** Promises 4, 5: each text, and it with any other letter at any place, with one left out, and one put in. */
    private static void everyLetterAtEveryPlace() {
        says("the first letter that no MARKET has there, behind those ahead of it");
        String[] texts = {"p1s2;3:4", "p12s3;45:67;8:9", "p123s9;99:999;10:100;1:0;11:22", "p000s1;90:000;9:99"};
        for (String text : texts) {
            faultAndMarket(text);
            for (int place = 0; place <= text.length(); place++) {
                String ahead = text.substring(0, place);
                String behind = text.substring(Math.min(place + 1, text.length()));
                faultAndMarket(ahead);
                faultAndMarket(ahead + behind);
                for (char letter = 1; letter <= 126; letter++) {
                    faultAndMarket(ahead + letter + behind);
                    if ("ps;:0159".indexOf(letter) >= 0) {
                        faultAndMarket(ahead + letter + text.substring(place));
                    }
                }
            }
        }
    }

    private static void faultAndMarket(String text) {
        SoldNews x = new SoldNews();
        write(x, text);
        is("fault of " + text, x.fault(), faultOf(text));
        is("the page of " + text, x.count(3), text.length());
        boolean is = MARKET.matcher(text).matches();
        is("market of " + text, x.market(), is ? text.length() - text.replace(";", "").length() : STATE);
        is("the page of " + text + " behind", x.count(3), is ? 0 : text.length());
    }

    private static void longPages() {
        says("The place of the first letter that no MARKET (of any length, but CASES no more than told) has there");
        String longest = "p999s9;99:999;99:999;99:999;99:999";
        String[] texts = {longest, longest + ";", longest + "9", longest + ";99:999;99:999;99:999;99", "p1s1;1:1;1:1;1:1;1:1;",
            "p1s1;1:1;1:1;1:1;1:1;1:1", "p1s1;1:1;1:1;1:1;1:1", "p1s1;1:1;1:1;1:1", "p1s1;1:1;1:1;1:1;", "p1s1;1:1;1:1;1:1;1:",
            SIXTY, "p" + SIXTY.substring(1), "p1" + "0".repeat(58), "1s1;1:1", "12s1;1:1", "p1/s1;1:1", "p11/s1;1:1", "p1s1;1/:1"};
        for (String text : texts) {
            faultAndMarket(text);
        }
        says("how many letters it has, if there is none");
        SoldNews x = new SoldNews();
        is("of nothing", x.fault(), 0);
        write(x, longest.substring(0, 33));
        is("of a part", x.fault(), 33);
        write(x, "9");
        is("of the longest market", x.fault(), 34);
        write(x, ";");
        is("of a case too many", x.fault(), 34);
        x.blank();
        write(x, longest + "9" + SIXTY.substring(0, 25));
        is("of a full page", x.fault(), 34);
        is("a full page that is none", x.market(), STATE);
        is("a full page", x.count(3), 60);
    }

    private static void toldAll(SoldNews x, int base, int slope, int... weightsAndValues) {
        is("base", x.told(NONE, 0), base);
        is("slope", x.told(NONE, 1), slope);
        is("cases", x.count(0), weightsAndValues.length / 2);
        for (int c = 0; c < weightsAndValues.length / 2; c++) {
            is("weight " + c, x.told(c, 0), weightsAndValues[2 * c]);
            is("value " + c, x.told(c, 1), weightsAndValues[2 * c + 1]);
        }
        is("no case more", x.told(weightsAndValues.length / 2, 0), UNKNOWN);
    }

    /** Section 1. */
    private static void leastAndMost() {
        says("BASE (one to three digits), SLOPE (1 to 9), CASES (1 to 4), WEIGHT (one or two digits), VALUE (one to three)");
        toldAll(with("p0s1;1:0"), 0, 1, 1, 0);
        toldAll(with("p000s1;1:000"), 0, 1, 1, 0);
        toldAll(with("p00s1;1:00"), 0, 1, 1, 0);
        toldAll(with("p9s9;9:9"), 9, 9, 9, 9);
        toldAll(with("p10s5;10:10"), 10, 5, 10, 10);
        toldAll(with("p99s5;11:99"), 99, 5, 11, 99);
        toldAll(with("p100s5;90:100"), 100, 5, 90, 100);
        toldAll(with("p010s5;90:001"), 10, 5, 90, 1);
        toldAll(with("p999s9;99:999;99:999;99:999;99:999"), 999, 9, 99, 999, 99, 999, 99, 999, 99, 999);
        toldAll(with("p1s2;1:2;3:4"), 1, 2, 1, 2, 3, 4);
        toldAll(with("p1s2;1:2;3:4;5:6"), 1, 2, 1, 2, 3, 4, 5, 6);
        toldAll(with("p1s2;1:2;3:4;5:6;7:8"), 1, 2, 1, 2, 3, 4, 5, 6, 7, 8);
    }

    /** Promise 5. */
    private static void anotherMarket() {
        says("THE PAGE is read as THE MARKET (another one is gone; BUYERS, NEWS stay)");
        SoldNews x = with("p7s3;20:107;40:207;30:307;10:7");
        x.buyer(2, 4);
        x.news(1, 0);
        is("page", x.count(3), 0);
        isPart("the first", p -> x.heard(0, 0, p), 1, 5);
        isPart("the first", p -> x.heard(0, 3, p), 1, 10);
        write(x, "p8s4;1:9");
        is("the page alone is no market", x.told(NONE, 0), 7);
        is("fewer cases", x.market(), 1);
        toldAll(x, 8, 4, 1, 9);
        isPart("the weights are gone", p -> x.heard(0, 0, p), 1, 1);
        isPart("a case is gone", p -> x.heard(0, 1, p), 0, 1);
        isPart("the weights are gone", p -> x.bound(p), 0, 1);
        write(x, "p9s5;1:10;2:19;1:10");
        is("more cases", x.market(), 3);
        toldAll(x, 9, 5, 1, 10, 2, 19, 1, 10);
        isPart("the weights are its own", p -> x.heard(0, 1, p), 1, 2);
        isPart("the weights are its own", p -> x.heard(0, 3, p), 0, 1);
        // One step makes 5 in CASE 1, none the most else.
        isPart("the weights are its own", p -> x.bound(p), 5, 2);
        is("buyers stay", x.count(1), 1);
        is("buyers stay", x.change(0, 0, 1), 2);
        is("buyers stay", x.change(0, 1, 0), 4);
        is("news stay", x.as(0, 1), 0);
        is("the page is empty then", x.fault(), 0);
        is("the same again is none", x.market(), STATE);
        says("the SEED of a RUN, CASES and WEIGHTS of another MARKET");
        is("a draw of 4", x.run(0, 0, 1, 3, 0), next(next(next(1))));
    }

    private static void noMarket() {
        says("STATE: it is none");
        SoldNews x = new SoldNews();
        is("nothing", x.market(), STATE);
        write(x, "p1s1;1:");
        is("a part", x.market(), STATE);
        is("no case", x.count(0), 0);
        is("no base", x.told(NONE, 0), UNKNOWN);
        is("the page stays", x.count(3), 7);
        is("letters come behind it", x.letters('5'), 8);
        is("a market", x.market(), 1);
        toldAll(x, 1, 1, 1, 5);
        write(x, "p2s2;2:2;2:2;x");
        is("another that is none", x.market(), STATE);
        toldAll(x, 1, 1, 1, 5);
        isPart("bound", p -> x.bound(p), 0, 1);
        x.buyer(3, 0);
        isPart("bound of the one that is", p -> x.bound(p), 4, 1);
        is("fault", x.fault(), 13);
        toldAll(x, 1, 1, 1, 5);
        isPart("bound of the one that is", p -> x.bound(p), 4, 1);
        x.blank();
        write(x, "p2s2");
        is("no case at all", x.market(), STATE);
        write(x, ";");
        is("none behind it", x.market(), STATE);
        write(x, "2:3");
        is("a case", x.market(), 1);
        toldAll(x, 2, 2, 2, 3);
    }

    /** Promise 6. */
    private static void toldOfEachCase() {
        says("Of a CASE: what = 0 WEIGHT, 1 VALUE; of CASE NONE: 0 BASE, 1 SLOPE. UNKNOWN; OUTSIDE");
        String text = "p5s6;7:8;17:18;27:28;37:38";
        for (int cases = 1; cases <= 4; cases++) {
            SoldNews x = with(text.substring(0, cases == 1 ? 8 : 8 + 6 * (cases - 1)));
            for (int c = -3; c <= 5; c++) {
                for (int what = -2; what <= 3; what++) {
                    int due = c < -1 || c >= cases ? UNKNOWN : what < 0 || what > 1 ? OUTSIDE
                        : c == -1 ? 5 + what : 10 * c + 7 + what;
                    is("of " + cases + " cases told " + c + " " + what, x.told(c, what), due);
                }
            }
            is("told of the least", x.told(LOW, 0), UNKNOWN);
            is("told of the greatest", x.told(HIGH, 0), UNKNOWN);
            is("told the least", x.told(0, LOW), OUTSIDE);
            is("told the greatest", x.told(NONE, HIGH), OUTSIDE);
        }
        says("UNKNOWN (NONE without a MARKET, too)");
        for (int c = -2; c <= 4; c++) {
            is("told " + c, new SoldNews().told(c, 0), UNKNOWN);
            is("told " + c + " what is outside", new SoldNews().told(c, 2), UNKNOWN);
        }
    }

    /** Promise 7. */
    private static void buyersAtTheirEnds() {
        says("BUYERS (4 at most, numbered) have a LIMIT (1 to 3) and a FEE (0 to 99)");
        int[][] inside = {{1, 0}, {3, 99}, {1, 99}, {3, 0}, {2, 1}, {2, 98}};
        for (int[] one : inside) {
            SoldNews x = new SoldNews();
            is("buyer " + one[0] + " " + one[1], x.buyer(one[0], one[1]), 0);
            is("digest", x.digest(), DigestSum.of(one[0], one[1], 0, 1, 0, 0, 0));
        }
        int[][] outside = {{0, 0}, {4, 0}, {-1, 0}, {LOW, 0}, {HIGH, 0}, {1, -1}, {1, 100}, {3, 100}, {3, LOW}, {1, HIGH}, {0, 100}, {4, -1}};
        SoldNews x = new SoldNews();
        for (int number = 0; number < 4; number++) {
            for (int[] one : outside) {
                is("buyer " + one[0] + " " + one[1], x.buyer(one[0], one[1]), OUTSIDE);
            }
            is("so many", x.count(1), number);
            is("their number", x.buyer(1, number), number);
        }
        is("a fifth", x.buyer(1, 0), FULL);
        is("a fifth", x.buyer(3, 99), FULL);
        for (int[] one : outside) {
            is("OUTSIDE ahead of FULL", x.buyer(one[0], one[1]), OUTSIDE);
        }
        is("four", x.count(1), 4);
        is("as they were", x.digest(), DigestSum.of(1, 0, 1, 1, 1, 2, 1, 3, 0, 4, 0, 0, 0));
    }

    /** Promise 8. */
    private static void changesAtTheirEnds() {
        says("LIMIT (what = 0), FEE (1) of a BUYER becomes v: what it was. UNKNOWN; OUTSIDE");
        SoldNews x = new SoldNews();
        for (int buyer = 0; buyer <= 3; buyer++) {
            is("no buyer yet", x.change(buyer, 0, 1), UNKNOWN);
            x.buyer(2, 50 + buyer);
            is("a number above", x.change(buyer + 1, 0, 1), UNKNOWN);
        }
        is("below", x.change(-1, 0, 1), UNKNOWN);
        for (int buyer = 0; buyer <= 3; buyer++) {
            is("limit of " + buyer, x.change(buyer, 0, 1), 2);
            is("least limit of " + buyer, x.change(buyer, 0, 3), 1);
            is("most limit of " + buyer, x.change(buyer, 0, 3), 3);
            is("fee of " + buyer, x.change(buyer, 1, 0), 50 + buyer);
            is("least fee of " + buyer, x.change(buyer, 1, 99), 0);
            is("most fee of " + buyer, x.change(buyer, 1, buyer), 99);
            for (int v : new int[] {0, 4, -1, 50, 99}) {
                is("limit " + v, x.change(buyer, 0, v), OUTSIDE);
            }
            for (int v : new int[] {-1, 100, -99}) {
                is("fee " + v, x.change(buyer, 1, v), OUTSIDE);
            }
            is("neither below", x.change(buyer, -1, 1), OUTSIDE);
            is("neither above", x.change(buyer, 2, 1), OUTSIDE);
        }
        is("as they are", x.digest(), DigestSum.of(3, 0, 3, 1, 3, 2, 3, 3, 0, 4, 0, 0, 0));
    }

    /** Promise 9. */
    private static void newsAtTheirEnds() {
        says("NEWS (8 at most, numbered), with a number n (0 to 255; of BLUR, LATE 0 to 100)");
        for (int kind = 0; kind < 5; kind++) {
            int most = kind == 3 || kind == 4 ? 100 : 255;
            for (int n : new int[] {0, 1, 99, 100, most - 1, most}) {
                SoldNews x = new SoldNews();
                is("news " + kind + " " + n, x.news(kind, n), 0);
                is("digest", x.digest(), DigestSum.of(kind, n, 0, 0, 1, 0, 0));
            }
            for (int n : new int[] {-1, most + 1, 256, LOW, HIGH}) {
                is("news " + kind + " " + n, new SoldNews().news(kind, n), OUTSIDE);
            }
        }
        for (int kind : new int[] {-1, 5, LOW, HIGH}) {
            is("kind " + kind, new SoldNews().news(kind, 0), OUTSIDE);
        }
        SoldNews x = new SoldNews();
        for (int number = 0; number < 8; number++) {
            is("so many", x.count(2), number);
            is("not yet told", x.as(number, 0), UNKNOWN);
            is("their number", x.news(number % 5, number), number);
        }
        for (int kind = 0; kind < 5; kind++) {
            is("a ninth", x.news(kind, 0), FULL);
            is("OUTSIDE ahead of FULL", x.news(kind, -1), OUTSIDE);
            is("OUTSIDE ahead of FULL", x.news(kind, 256), OUTSIDE);
        }
        is("OUTSIDE ahead of FULL", x.news(3, 101), OUTSIDE);
        is("OUTSIDE ahead of FULL", x.news(5, 0), OUTSIDE);
        is("OUTSIDE ahead of FULL", x.news(-1, 0), OUTSIDE);
        is("as they were", x.digest(), DigestSum.of(0, 0, 1, 1, 2, 2, 3, 3, 4, 4, 0, 5, 1, 6, 2, 7, 0, 0, 8, 0, 0));
    }

    /** Promise 10. */
    private static void takenAs() {
        says("All are NEWS; BLUR and LATE are PLAIN, too; NONE: they are none such");
        int[][] are = {{1, 0, 0, 0, 0}, {1, 1, 0, 0, 0}, {1, 0, 1, 0, 0}, {1, 1, 0, 1, 0}, {1, 1, 0, 0, 1}};
        for (boolean market : new boolean[] {false, true}) {
            SoldNews x = market ? with("p1s1;1:1") : new SoldNews();
            for (int news = 0; news < 8; news++) {
                x.news(news % 5, 0);
            }
            for (int news = 0; news < 8; news++) {
                for (int kind = 0; kind < 5; kind++) {
                    is("as " + news + " " + kind, x.as(news, kind), are[news % 5][kind] == 1 ? news : NONE);
                }
                is("as below", x.as(news, -1), OUTSIDE);
                is("as above", x.as(news, 5), OUTSIDE);
            }
            is("below all", x.as(-1, 0), UNKNOWN);
            is("above all", x.as(8, 0), UNKNOWN);
            is("UNKNOWN ahead of OUTSIDE", x.as(8, 5), UNKNOWN);
        }
    }

    private static void heardAll(String what, SoldNews x, int news, long... aboveAndBelow) {
        for (int sign = 0; sign < 4; sign++) {
            int s = sign;
            long above = 2 * s < aboveAndBelow.length ? aboveAndBelow[2 * s] : 0;
            isPart(what + " SIGN " + s, p -> x.heard(news, s, p), above, above == 0 ? 1 : aboveAndBelow[2 * s + 1]);
            if (above == 0) {
                isNo(what + " is never heard as SIGN " + s, p -> x.edge(news, s, p), P_NONE);
            }
        }
    }

    /** Promises 11, 12; WEIGHTS 1 to 4 of 10. */
    private static SoldNews four() {
        return with("p100s1;1:130;2:70;3:101;4:100");
    }

    private static void plainNews() {
        says("NEWS always SIGN 0");
        SoldNews x = four();
        heardAll("NEWS 0", x, x.news(0, 0), 1, 1);
        heardAll("NEWS 255", x, x.news(0, 255), 1, 1);
        says("PLAIN the number of the CASE");
        heardAll("PLAIN 0", x, x.news(1, 0), 1, 10, 1, 5, 3, 10, 2, 5);
        heardAll("PLAIN 255", x, x.news(1, 255), 1, 10, 1, 5, 3, 10, 2, 5);
        SoldNews one = with("p1s1;99:0");
        heardAll("NEWS of one case", one, one.news(0, 9), 1, 1);
        heardAll("PLAIN of one case", one, one.news(1, 9), 1, 1);
        SoldNews two = with("p1s1;99:0;1:0");
        heardAll("PLAIN of two cases", two, two.news(1, 9), 99, 100, 1, 100);
        SoldNews three = with("p1s1;99:0;99:0;99:0");
        heardAll("PLAIN of three cases", three, three.news(1, 9), 1, 3, 1, 3, 1, 3);
    }

    private static void parts() {
        says("PART the GROUP of the CASE: figure of base 4 of n (CASE 0's the lowest)");
        SoldNews x = four();
        heardAll("PART 0", x, x.news(2, 0), 1, 1);
        heardAll("PART 255", x, x.news(2, 255), 0, 1, 0, 1, 0, 1, 1, 1);
        heardAll("PART 228", x, x.news(2, 3 * 64 + 2 * 16 + 4), 1, 10, 1, 5, 3, 10, 2, 5);
        heardAll("PART 27", x, x.news(2, 16 + 2 * 4 + 3), 2, 5, 3, 10, 1, 5, 1, 10);
        heardAll("PART 1", x, x.news(2, 1), 9, 10, 1, 10);
        heardAll("PART 8", x, x.news(2, 2 * 4), 4, 5, 0, 1, 1, 5);
        heardAll("PART 48", x, x.news(2, 3 * 16), 7, 10, 0, 1, 0, 1, 3, 10);
        heardAll("PART 64", x, x.news(2, 64), 3, 5, 2, 5);
        SoldNews three = with("p100s1;1:130;2:70;3:101");
        heardAll("PART 64 of three cases", three, three.news(2, 64), 1, 1);
        heardAll("PART 16 of three cases", three, three.news(2, 16), 1, 2, 1, 2);
        SoldNews one = with("p100s1;1:130");
        heardAll("PART 252 of one case", one, one.news(2, 252), 1, 1);
        heardAll("PART 3 of one case", one, one.news(2, 3), 0, 1, 0, 1, 0, 1, 1, 1);
        isPart("PART edge of SIGN 3", p -> one.edge(1, 3, p), 30, 1);
    }

    private static void blurs() {
        says("a BLUR: in n hundredths of the times another CASE's number, each other one as often");
        SoldNews x = four();
        heardAll("BLUR 0", x, x.news(3, 0), 1, 10, 1, 5, 3, 10, 2, 5);
        // SIGN 0: 1 by 99 hundredths, 9 by a third of one; then 2 and 8, 3 and 7, 4 and 6.
        heardAll("BLUR 1", x, x.news(3, 1), 51, 500, 301, 1500, 449, 1500, 199, 500);
        // SIGN 0: 1 by one hundredth, 9 by 33.
        heardAll("BLUR 99", x, x.news(3, 99), 149, 500, 133, 500, 117, 500, 101, 500);
        heardAll("BLUR 100", x, x.news(3, 100), 3, 10, 4, 15, 7, 30, 1, 5);
        heardAll("BLUR 75", x, x.news(3, 75), 1, 4, 1, 4, 1, 4, 1, 4);
        isPart("BLUR 0 edge", p -> x.edge(0, 0, p), 30, 1);
        // 2 by -30, 3 by 1, 4 by 0.
        isPart("BLUR 100 edge", p -> x.edge(3, 0, p), -19, 3);
        isPart("BLUR 75 edge", p -> x.edge(4, 0, p), -27, 10);
        isPart("BLUR 75 edge", p -> x.edge(4, 3, p), -27, 10);
        SoldNews two = with("p40s2;3:60;1:20");
        heardAll("BLUR 0 of two cases", two, two.news(3, 0), 3, 4, 1, 4);
        heardAll("BLUR 1 of two cases", two, two.news(3, 1), 149, 200, 51, 200);
        heardAll("BLUR 99 of two cases", two, two.news(3, 99), 51, 200, 149, 200);
        heardAll("BLUR 100 of two cases", two, two.news(3, 100), 1, 4, 3, 4);
        isPart("BLUR 100 of two cases", p -> two.edge(3, 0, p), -20, 1);
        isPart("BLUR 100 of two cases", p -> two.edge(3, 1, p), 20, 1);
        says("with one CASE alone never");
        SoldNews one = with("p9s1;7:20");
        for (int n : new int[] {0, 1, 99, 100}) {
            int news = one.news(3, n);
            heardAll("BLUR " + n + " of one case", one, news, 1, 1);
            isPart("BLUR " + n + " of one case", p -> one.edge(news, 0, p), 11, 1);
        }
    }

    private static void late() {
        says("LATE: BASE is nearer to the VALUE then by n hundredths of what is between (in that CASE)");
        SoldNews x = four();
        int[] n = {0, 1, 50, 99, 100};
        int[][] edges = {{30, 1, -30, 1, 1, 1}, {297, 10, -297, 10, 99, 100}, {15, 1, -15, 1, 1, 2},
            {3, 10, -3, 10, 1, 100}, {0, 1, 0, 1, 0, 1}};
        for (int i = 0; i < n.length; i++) {
            int news = x.news(4, n[i]);
            heardAll("LATE " + n[i], x, news, 1, 10, 1, 5, 3, 10, 2, 5);
            for (int c = 0; c < 3; c++) {
                int sign = c;
                int[] due = edges[i];
                isPart("LATE " + n[i] + " edge " + c, p -> x.edge(news, sign, p), due[2 * sign], due[2 * sign + 1]);
            }
            isPart("LATE " + n[i] + " of VALUE as BASE", p -> x.edge(news, 3, p), 0, 1);
        }
        SoldNews one = with("p9s1;7:20");
        heardAll("LATE of one case", one, one.news(4, 3), 1, 1);
        isPart("LATE of one case", p -> one.edge(0, 0, p), 1067, 100);
    }

    private static void edges() {
        says("EDGE: what VALUE is above BASE on an average; fractions in lowest terms, below 1 at least");
        SoldNews up = with("p0s9;99:999");
        up.news(0, 0);
        isPart("the greatest", p -> up.edge(0, 0, p), 999, 1);
        SoldNews down = with("p999s9;99:0");
        down.news(0, 0);
        isPart("the least", p -> down.edge(0, 0, p), -999, 1);
        SoldNews x = four();
        x.news(0, 0);
        // 1 by 30, 2 by -30, 3 by 1: -27.
        isPart("on an average", p -> x.edge(0, 0, p), -27, 10);
        SoldNews even = with("p50s1;10:60;20:45");
        even.news(0, 0);
        isPart("nothing is 0 by 1", p -> even.edge(0, 0, p), 0, 1);
        SoldNews all = with("p0s1;99:999;99:998;99:997;99:996");
        all.news(0, 0);
        all.news(3, 1);
        isPart("the greatest WEIGHTS", p -> all.edge(0, 0, p), 1995, 2);
        // 297 by 999, and 1 by 998, 997, 996 together: 299694 of 300.
        isPart("the greatest WEIGHTS", p -> all.edge(1, 0, p), 49949, 50);
        says("part 0 above, 1 below");
        isOutside("heard", p -> x.heard(0, 0, p));
        isOutside("edge", p -> x.edge(0, 0, p));
        says("a SIGN (0 to 3)");
        for (int sign : new int[] {-1, 4, LOW, HIGH}) {
            isNo("heard " + sign, p -> x.heard(0, sign, p), P_OUTSIDE);
            isNo("edge " + sign, p -> x.edge(0, sign, p), P_OUTSIDE);
        }
        isPart("the last SIGN", p -> x.heard(0, 3, p), 0, 1);
        says("there is none: it is never heard");
        isNo("edge", p -> x.edge(0, 3, p), P_NONE);
        isOutside("OUTSIDE ahead of it", p -> x.edge(0, 3, p));
    }

    /** Promise 27. */
    private static void counts() {
        says("How many: 0 CASES, 1 BUYERS, 2 NEWS, 3 letters of THE PAGE, 4 how often whom(), plainly() were done");
        SoldNews x = with("p1s1;1:1;1:1;1:1;1:1");
        for (int i = 0; i < 4; i++) {
            x.buyer(1, 99);
        }
        for (int i = 0; i < 8; i++) {
            x.news(0, 0);
        }
        write(x, SIXTY);
        for (int i = 0; i < 40; i++) {
            x.whom(0, 0);
        }
        int[] most = {4, 4, 8, 60, 40};
        for (int what = 0; what < 5; what++) {
            is("the most " + what, x.count(what), most[what]);
        }
        for (int what : new int[] {-1, 5, LOW, HIGH}) {
            is("count " + what, x.count(what), OUTSIDE);
        }
        is("a fault is no market", x.market(), STATE);
        is("cases", x.count(0), 4);
    }

    /** Promise 28. */
    private static void digests() {
        says("h is 359, then for each of these numbers, in order, 31 times h, and it (as longs, wrapping)");
        SoldNews x = with("p100s1;10:130;20:70;30:101;40:999");
        for (int i = 0; i < 4; i++) {
            x.buyer(i % 3 + 1, 10 * i);
        }
        int[][] news = {{0, 255}, {1, 0}, {2, 27}, {3, 100}, {4, 100}, {3, 0}, {2, 255}, {4, 0}};
        for (int[] one : news) {
            x.news(one[0], one[1]);
        }
        write(x, SIXTY);
        x.whom(0, 0);
        x.plainly(1);
        long[] told = new long[10 + 8 + 8 * 6 + 2 + 60 + 5];
        int size = 0;
        for (int one : new int[] {100, 1, 10, 130, 20, 70, 30, 101, 40, 999, 1, 0, 2, 10, 3, 20, 1, 30}) {
            told[size++] = one;
        }
        for (int i = 0; i < 8; i++) {
            told[size++] = news[i][0];
            told[size++] = news[i][1];
            for (int sign = 0; sign < 4; sign++) {
                told[size++] = x.rests(i, 15, sign, 1);
            }
        }
        told[size++] = x.bound(0);
        told[size++] = x.bound(1);
        for (char letter : SIXTY.toCharArray()) {
            told[size++] = letter;
        }
        for (int one : new int[] {4, 4, 8, 60, 2}) {
            told[size++] = one;
        }
        is("of all that can be told", x.digest(), DigestSum.of(told));
        is("again", x.digest(), DigestSum.of(told));
        says("of each SIGN what rests() tells for all BUYERS and 1");
        is("NEWS are never heard as SIGN 1", told[21], NONE);
        SoldNews nobody = with("p10s1;1:14");
        nobody.news(0, 7);
        is("without BUYERS", nobody.digest(), DigestSum.of(10, 1, 1, 14, 0, 7, 0, NONE, NONE, NONE, 0, 1, 1, 0, 1, 0, 0));
        says("with a MARKET THE BOUND above, below");
        SoldNews bare = with("p10s1;1:14;2:9");
        is("without NEWS", bare.digest(), DigestSum.of(10, 1, 1, 14, 2, 9, 0, 1, 2, 0, 0, 0, 0));
        bare.buyer(3, 99);
        // 2 steps make 4 in CASE 0, none the most in CASE 1.
        is("with a BUYER", bare.digest(), DigestSum.of(10, 1, 1, 14, 2, 9, 3, 99, 4, 3, 2, 1, 0, 0, 0));
        says("wrapping");
        SoldNews wraps = new SoldNews();
        wraps.letters(word("aaaaaaaa"));
        // Thirteen numbers: 359 by 31 to the 13 is above 2 to the 64.
        is("eight letters", wraps.digest(), 8858775837541469809L);
    }

    private static void the512thCall() {
        says("An object is used for at most 512 calls");
        SoldNews x = with("p10s1;1:14");
        x.buyer(3, 0);
        x.news(0, 0);
        // Six calls so far: a count, two words, the market, and these two.
        for (int call = 7; call <= 511; call++) {
            x.change(0, 1, call % 100);
        }
        is("the 512th", x.change(0, 1, 0), 11);
    }
}
