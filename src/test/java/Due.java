import java.util.function.IntUnaryOperator;

/** What the project's tests share: counting wrong answers, and small balls to begin with. */
final class Due {
    /** Too small, too large, the names of answers, and what becomes a small number if bits are lost. */
    private static final int[] ODD_NUMBERS = {Integer.MIN_VALUE, Integer.MIN_VALUE + 1, -65536, -256, -32, -5, -4, -3, -2,
        -1, 32, 33, 64, 65, 256, 257, 65536, 65537, Integer.MAX_VALUE - 1, Integer.MAX_VALUE};

    private static int wrong = 0;
    private static int checked = 0;

    private Due() {
    }

    static void due(String call, long got, long want) {
        checked++;
        if (got == want) return;
        wrong++;
        System.out.println(call + " answered " + got + ", due is " + want);
    }

    /** Every number outside of the bounds is BAD; the call must not depend on what it refused before. */
    static void dueBadOutside(String call, int least, int most, IntUnaryOperator answer) {
        due(call + " of " + (least - 1), answer.applyAsInt(least - 1), DanceCards.BAD);
        due(call + " of " + (most + 1), answer.applyAsInt(most + 1), DanceCards.BAD);
        for (int odd : ODD_NUMBERS) {
            if (odd < least || odd > most) due(call + " of " + odd, answer.applyAsInt(odd), DanceCards.BAD);
        }
    }

    static void dueRow(String call, IntUnaryOperator answer, int... wanted) {
        for (int i = 0; i < wanted.length; i++) due(call + " of " + i, answer.applyAsInt(i), wanted[i]);
    }

    static void finish() {
        System.out.println(checked + " answers looked at, " + wrong + " wrong");
        if (wrong != 0) System.exit(1);
    }

    /** Ladies first, then gentlemen, all of rank 0; every lady knows every gentleman. */
    static DanceCards ball(int ladies, int gentlemen) {
        DanceCards x = new DanceCards();
        for (int i = 0; i < ladies; i++) x.person(true, 0);
        for (int i = 0; i < gentlemen; i++) x.person(false, 0);
        for (int l = 0; l < ladies; l++) {
            for (int g = ladies; g < ladies + gentlemen; g++) x.introduce(DanceCards.NONE, l, g);
        }
        return x;
    }

    /** Eight bytes of a text from a place on, the highest first; blanks behind its end. */
    static long eight(String text, int from) {
        long v = 0;
        for (int i = from; i < from + 8; i++) v = v << 8 | (i < text.length() ? text.charAt(i) : ' ') & 0xff;
        return v;
    }

    /** Puts a text behind the tape: what is less than eight bytes comes first, so that it can be filled to its end. */
    static void type(DanceCards x, String text) {
        int odd = text.length() % 8;
        if (odd > 0) x.end(x.feed(eight(text, 0)) - 8 + odd);
        for (int i = odd; i < text.length(); i += 8) x.feed(eight(text, i));
    }

    static int tell(DanceCards x, String text) {
        type(x, text);
        return x.customs();
    }
}
