/** What the project's tests share: counting wrong answers, and small balls to begin with. */
final class Due {
    private static int wrong = 0;
    private static int checked = 0;

    private Due() {
    }

    static void due(String call, long got, long want) {
        checked++;
        if (got == want) return;
        wrong++;
        System.out.println(call + " answered " + got + ", due is " + want);
    }

    static void finish() {
        System.out.println(checked + " answers looked at, " + wrong + " wrong");
        if (wrong != 0) System.exit(1);
    }

    /** Ladies first, then gentlemen, all of rank 0; every lady knows every gentleman. */
    static DanceCards ball(int ladies, int gentlemen) {
        DanceCards x = new DanceCards();
        for (int i = 0; i < ladies; i++) x.person(true, 0);
        for (int i = 0; i < gentlemen; i++) x.person(false, 0);
        for (int l = 0; l < ladies; l++) {
            for (int g = ladies; g < ladies + gentlemen; g++) x.introduce(DanceCards.NONE, l, g);
        }
        return x;
    }

    /** Eight bytes of a text from a place on, the highest first; blanks behind its end. */
    static long eight(String text, int from) {
        long v = 0;
        for (int i = from; i < from + 8; i++) v = v << 8 | (i < text.length() ? text.charAt(i) : ' ') & 0xff;
        return v;
    }

    /** Puts a text behind the tape. */
    static void type(DanceCards x, String text) {
        int before = x.count(7);
        for (int i = 0; i < text.length(); i += 8) x.feed(eight(text, i));
        x.end(before + text.length());
    }

    static int tell(DanceCards x, String text) {
        type(x, text);
        return x.customs();
    }
}
