/** What the tests have in common: a market from a text, and the answers beside those that are due. */
abstract class Checks {
    static final int NONE = -1, UNKNOWN = -101, OUTSIDE = -102, STATE = -103, FULL = -104;
    static final long P_UNKNOWN = -1000000000000000001L, P_OUTSIDE = -1000000000000000002L;
    static final long P_STATE = -1000000000000000003L, P_NONE = -1000000000000000004L;
    static final int LOW = Integer.MIN_VALUE, HIGH = Integer.MAX_VALUE;
    private static int wrong = 0;
    private static int asked = 0;
    private static String sentence = "";

    interface Part {
        long of(int part);
    }

    /** The sentence of the document that the answers behind it show; it is printed with those that are not due. */
    static void says(String words) {
        sentence = words + ": ";
    }

    static void is(String what, long got, long want) {
        asked++;
        if (got != want) {
            wrong++;
            System.out.println(sentence + what + " answered " + got + ", due is " + want);
        }
    }

    static void isPart(String what, Part got, long above, long below) {
        is(what + " above", got.of(0), above);
        is(what + " below", got.of(1), below);
    }

    /** A refusal told for any part that is one. */
    static void isNo(String what, Part got, long no) {
        is(what, got.of(0), no);
        is(what, got.of(1), no);
    }

    static void isOutside(String what, Part got) {
        for (int part : new int[] {-1, 2, LOW, HIGH}) {
            is(what + " part " + part, got.of(part), P_OUTSIDE);
        }
    }

    static int write(SoldNews x, String text) {
        int size = x.count(3);
        for (int from = 0; from < text.length(); from += 8) {
            size = x.letters(word(text.substring(from, Math.min(text.length(), from + 8))));
        }
        return size;
    }

    /** The letters of a text, eight at most, as letters() takes them. */
    static long word(String text) {
        long w = 0;
        for (int i = text.length() - 1; i >= 0; i--) {
            w = w << 8 | text.charAt(i);
        }
        return w;
    }

    static SoldNews with(String text) {
        SoldNews x = new SoldNews();
        write(x, text);
        if (x.market() < 1) {
            throw new IllegalStateException(text);
        }
        return x;
    }

    /** The SEED behind another one. */
    static long next(long seed) {
        return (1103515245L * seed + 12345L) % 2147483648L;
    }

    static void end() {
        System.out.println(wrong == 0 ? asked + " answers as due" : wrong + " answers not as due");
        if (wrong != 0) {
            System.exit(1);
        }
    }
}
