import java.util.ArrayList;
import java.util.Arrays;
import java.util.HashMap;
import java.util.List;
import java.util.Map;

/**
 * Each call with each of its arguments at both ends, inside and outside, in objects with nothing there and with
 * everything full: of several refusals the first as the document tells them, and none changes anything.
 */
public final class RefusalsTest extends Checks {
    /** What a call is asked by: what stands for each argument, and in which order it is looked at. */
    private static final String[][] CALLS = {
        {"letters", "word", "word page"},
        {"market", "", "text"},
        {"told", "caseOrNone two", "caseOrNone two"},
        {"buyer", "limit fee", "limit fee buyers"},
        {"change", "buyer two v", "buyer two v"},
        {"news", "kind n", "kind n allNews"},
        {"as", "news kind", "news kind"},
        {"heard", "news sign part", "news market sign part"},
        {"edge", "news sign part", "news market sign part"},
        {"rests", "news set sign rest", "news market set sign rest"},
        {"makes", "news sign dealings buyer part", "news market buyer sign dealings part"},
        {"worth", "news set buyer part", "news market buyer set part"},
        {"whom", "news two", "news market two sold"},
        {"plainly", "two", "market two sold"},
        {"more", "news set", "news market set"},
        {"pledge", "news set part", "news market set part"},
        {"on", "news set two", "news market set two"},
        {"shut", "news buyer part", "news market buyer part"},
        {"wrongly", "news set sign case buyer part", "news market buyer case set sign part"},
        {"shown", "news set", "news market set"},
        {"thought", "news set sign part", "news market set sign part"},
        {"bound", "part", "market part"},
        {"run", "news set seed days three", "news market set seed days three"},
        {"count", "five", "five"},
    };
    private static final List<String> FRACTIONS = List.of("heard", "edge", "makes", "worth", "pledge", "shut",
        "wrongly", "thought", "bound");
    private static final List<String> NAMES = List.of("news", "buyer", "case", "caseOrNone");
    private static final long[] WORDS = {0, 'a', 127, 0x610061, -1, 0x6161616161616161L, 0x8061616161616161L};
    private static final int MOST_REFUSED = 150;

    public static void main(String[] args) {
        List<Scene> scenes = List.of(new Scene("nothing", "", 0, 0, "", 0), new Scene("no market", "", 2, 5, "p1", 0),
            new Scene("nobody", "p40s2;3:64;5:40", 0, 0, "", 0), new Scene("no news", "p40s2;3:64;5:40", 4, 0, ";", 3),
            new Scene("no buyers", "p40s2;3:64", 0, 8, "p1s1", 39),
            new Scene("ordinary", "p40s2;3:64;5:40;2:10", 2, 5, "p1s1;1:4x", 1),
            new Scene("full", "p40s1;3:64;5:50;2:10;9:0", 4, 8, "p1s1;1:1" + "x".repeat(52), 40),
            new Scene("all sold", "p40s1;3:64;5:50", 3, 1, "", 40));
        for (Scene scene : scenes) {
            for (String[] call : CALLS) {
                new Asking(scene, call).go();
            }
        }
        end();
    }

    /** An object as it stands before it is asked. */
    private static final class Scene {
        final String name;
        final String market;
        final int cases;
        final int buyers;
        final int news;
        final String page;
        final int sold;

        Scene(String name, String market, int buyers, int news, String page, int sold) {
            this.name = name;
            this.market = market;
            this.cases = market.length() - market.replace(";", "").length();
            this.buyers = buyers;
            this.news = news;
            this.page = page;
            this.sold = sold;
        }

        SoldNews make() {
            SoldNews x = market.isEmpty() ? new SoldNews() : with(market);
            for (int i = 0; i < buyers; i++) {
                x.buyer(3 - i % 3, 3 * i);
            }
            for (int i = 0; i < news; i++) {
                x.news((i + 1) % 5, 20 * (i % 5) + 4);
            }
            write(x, page);
            for (int i = 0; i < sold; i++) {
                x.plainly(i % 2);
            }
            return x;
        }

        /** Of what stands for an argument, the first inside, the last inside, and those outside. */
        int[][] ends(String role) {
            switch (role) {
                case "news": return numbered(0, news - 1);
                case "buyer": return numbered(0, buyers - 1);
                case "case": return numbered(0, cases - 1);
                case "caseOrNone": return numbered(market.isEmpty() ? 0 : -1, cases - 1);
                case "set": return numbered(0, (1 << buyers) - 1);
                case "sign": return numbered(0, 3);
                case "part": case "two": return numbered(0, 1);
                case "three": return numbered(0, 2);
                case "five": return numbered(0, 4);
                case "kind": return numbered(0, 4);
                case "limit": return numbered(1, 3);
                case "fee": return numbered(0, 99);
                case "days": return numbered(1, 100);
                case "seed": return new int[][] {{0, HIGH}, {-1, LOW}};
                case "rest": return new int[][] {{0, 1, 10, 99}, {-1, 2, 9, 100, LOW, HIGH}};
                // What may be said of a FEE and a LIMIT, of all KINDS; the rest is MarketBoundsTest's.
                case "v": return new int[][] {{1, 3}, {-1, 100, LOW, HIGH}};
                case "n": return new int[][] {{0, 100}, {-1, 256, LOW, HIGH}};
                case "word": return new int[][] {{0, 1, 5}, {2, 3, 4, 6}};
                case "dealings": return dealings();
                default: throw new IllegalStateException(role);
            }
        }

        private static int[][] numbered(int first, int last) {
            int[] inside = last < first ? new int[0] : new int[] {first, last};
            return new int[][] {inside, {first - 1, Math.max(first, last + 1), LOW, HIGH}};
        }

        private int[][] dealings() {
            int place = 1;
            int least = 0;
            int most = 0;
            for (int i = 0; i < buyers; i++, place *= 7) {
                least += (3 - (3 - i % 3)) * place;
                most += (3 + (3 - i % 3)) * place;
            }
            // The second one's LIMIT is 2, so that it can't sell 3.
            int beyond = buyers < 2 ? -1 : least - 7;
            return new int[][] {{least, most}, {-1, most + place, beyond, place + least, LOW, HIGH}};
        }

        boolean isRefused(String step, int[] args) {
            switch (step) {
                case "market": return market.isEmpty();
                case "text": return true;
                case "buyers": return buyers == 4;
                case "allNews": return news == 8;
                case "page": return page.length() + (args[0] == 5 ? 8 : args[0]) > 60;
                case "sold": return sold == 40;
                default: throw new IllegalStateException(step);
            }
        }
    }

    /** One call in one scene: all that can be asked. */
    private static final class Asking {
        private final Scene scene;
        private final String call;
        private final String[] roles;
        private final String[] steps;
        private final int[][][] ends;
        private final List<Long> portrait;
        private SoldNews x;
        private int refused = 0;

        Asking(Scene scene, String[] told) {
            this.scene = scene;
            call = told[0];
            roles = told[1].isEmpty() ? new String[0] : told[1].split(" ");
            steps = told[2].split(" ");
            ends = new int[roles.length][][];
            for (int i = 0; i < roles.length; i++) {
                ends[i] = scene.ends(roles[i]);
            }
            portrait = PORTRAITS.computeIfAbsent(scene.name, name -> portrait(scene.make(), scene));
        }

        void go() {
            says(scene.name);
            x = scene.make();
            ask(new int[roles.length], 0, 0);
            isAsItWas();
        }

        /** All at the ends next to each other; those far off one by one. */
        private void ask(int[] args, int from, int far) {
            if (from == args.length) {
                one(args.clone());
                return;
            }
            for (int[] some : ends[from]) {
                for (int value : some) {
                    boolean isFar = (value == LOW || value == HIGH) && some == ends[from][1];
                    if (isFar && far != 0) {
                        continue;
                    }
                    args[from] = value;
                    ask(args, from + 1, isFar ? 1 : far);
                }
            }
        }

        private void one(int[] args) {
            long due = due(args);
            String asked = call + Arrays.toString(args);
            if (due == 0) {
                long got = answer(scene.make(), call, args);
                is(asked + " is refused", isRefusal(got) ? got : 0, 0);
                return;
            }
            is(asked, answer(x, call, args), due);
            if (++refused == MOST_REFUSED) {
                isAsItWas();
            }
        }

        private void isAsItWas() {
            List<Long> now = portrait(x, scene);
            for (int i = 0; i < portrait.size(); i++) {
                is("behind " + refused + " refused calls of " + call + ": answer " + i, now.get(i), portrait.get(i));
            }
            x = scene.make();
            refused = 0;
        }

        private long due(int[] args) {
            for (String step : steps) {
                int i = Arrays.asList(roles).indexOf(step);
                boolean is = i < 0 ? scene.isRefused(step, args) : contains(ends[i][1], args[i]);
                if (is) {
                    int no = i >= 0 ? (NAMES.contains(step) ? UNKNOWN : OUTSIDE)
                        : List.of("market", "text", "sold").contains(step) ? STATE : FULL;
                    return !FRACTIONS.contains(call) ? no : no == UNKNOWN ? P_UNKNOWN : no == STATE ? P_STATE : P_OUTSIDE;
                }
            }
            return 0;
        }

        private boolean isRefusal(long got) {
            return FRACTIONS.contains(call) ? got == P_UNKNOWN || got == P_OUTSIDE || got == P_STATE
                : got <= UNKNOWN && got >= FULL;
        }
    }

    private static boolean contains(int[] all, int value) {
        for (int one : all) {
            if (one == value) {
                return true;
            }
        }
        return false;
    }

    private static long answer(SoldNews x, String call, int[] a) {
        switch (call) {
            case "letters": return x.letters(WORDS[a[0]]);
            case "market": return x.market();
            case "told": return x.told(a[0], a[1]);
            case "buyer": return x.buyer(a[0], a[1]);
            case "change": return x.change(a[0], a[1], a[2]);
            case "news": return x.news(a[0], a[1]);
            case "as": return x.as(a[0], a[1]);
            case "heard": return x.heard(a[0], a[1], a[2]);
            case "edge": return x.edge(a[0], a[1], a[2]);
            case "rests": return x.rests(a[0], a[1], a[2], a[3]);
            case "makes": return x.makes(a[0], a[1], a[2], a[3], a[4]);
            case "worth": return x.worth(a[0], a[1], a[2], a[3]);
            case "whom": return x.whom(a[0], a[1]);
            case "plainly": return x.plainly(a[0]);
            case "more": return x.more(a[0], a[1]);
            case "pledge": return x.pledge(a[0], a[1], a[2]);
            case "on": return x.on(a[0], a[1], a[2]);
            case "shut": return x.shut(a[0], a[1], a[2]);
            case "wrongly": return x.wrongly(a[0], a[1], a[2], a[3], a[4], a[5]);
            case "shown": return x.shown(a[0], a[1]);
            case "thought": return x.thought(a[0], a[1], a[2], a[3]);
            case "bound": return x.bound(a[0]);
            case "run": return x.run(a[0], a[1], a[2], a[3], a[4]);
            case "count": return x.count(a[0]);
            default: throw new IllegalStateException(call);
        }
    }

    private static final Map<String, List<Long>> PORTRAITS = new HashMap<>();

    /** What an object answers when it is asked for all that it holds, and then goes on. */
    private static List<Long> portrait(SoldNews x, Scene scene) {
        List<Long> told = new ArrayList<>();
        told.add(x.digest());
        for (int what = 0; what < 5; what++) {
            told.add((long) x.count(what));
        }
        told.add((long) x.fault());
        for (int c = NONE; c < 4; c++) {
            told.add((long) x.told(c, 0));
            told.add((long) x.told(c, 1));
        }
        told.add(x.bound(0));
        told.add(x.bound(1));
        int all = (1 << scene.buyers) - 1;
        for (int news = 0; news < scene.news; news++) {
            told.add(x.heard(news, 0, 0));
            told.add(x.edge(news, 0, 0));
            told.add(x.worth(news, all, 0, 0));
            told.add((long) x.rests(news, all, 1, 0));
            told.add(x.wrongly(news, all, 0, 0, 0, 0));
            told.add(x.thought(news, 0, 0, 0));
            told.add((long) x.more(news, 0));
            told.add((long) x.run(news, all, 5, 10, 1));
            told.add((long) x.as(news, 1));
        }
        told.add((long) x.market());
        told.add((long) x.whom(0, 0));
        told.add((long) x.plainly(1));
        told.add((long) x.change(0, 0, 2));
        told.add((long) x.change(0, 1, 2));
        told.add((long) x.buyer(1, 0));
        told.add((long) x.news(1, 0));
        told.add((long) x.letters('p'));
        told.add((long) x.blank());
        told.add(x.digest());
        return told;
    }
}
