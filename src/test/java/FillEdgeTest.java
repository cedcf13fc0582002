import java.util.Random;

/** Promises 19 and 20 at their edges. Each method tests the sentence of the document that stands above it. */
public final class FillEdgeTest {
    private static final int NONE = DanceCards.NONE, SITS = -5;

    private static void due(String call, long got, long want) {
        Due.due(call, got, want);
    }

    private static void dueFill(String what, DanceCards x, int d, int number, int... cards) {
        due(what + ": could", x.could(d), number);
        due(what + ": fill", x.fill(d), number);
        Due.dueRow(what + ": card in " + d, p -> x.card(p, d), cards);
        due(what + ": could then", x.could(d), 0);
        due(what + ": fill then", x.fill(d), 0);
    }

    /** Ladies first; lady l can dance with whom row l names. */
    private static DanceCards ballOf(int gentlemen, int[]... rows) {
        DanceCards x = new DanceCards();
        for (int i = 0; i < rows.length; i++) x.person(true, 0);
        for (int i = 0; i < gentlemen; i++) x.person(false, 0);
        for (int l = 0; l < rows.length; l++) for (int g : rows[l]) x.introduce(NONE, l, g);
        return x;
    }

    /** "could: BAD"; "fill: BAD" */
    private static void badDances() {
        DanceCards x = Due.ball(2, 2);
        Due.dueBadOutside("could", 0, 23, x::could);
        Due.dueBadOutside("fill", 0, 23, x::fill);
        due("nobody came", x.count(2), 0);
        dueFill("the first dance", x, 0, 2, 2, 3, 0, 1);
        dueFill("the last dance", x, 23, 2, 2, 3, 0, 1);
        due("couples", x.count(2), 4);
    }

    /** "THE MOST": nobody, ladies alone, gentlemen alone, all strangers, all taken, all ill */
    private static void nobodyCan() {
        dueFill("nobody", new DanceCards(), 0, 0);
        dueFill("ladies alone", Due.ball(16, 0), 0, 0, NONE, NONE);
        dueFill("gentlemen alone", Due.ball(0, 16), 0, 0, NONE, NONE);
        dueFill("strangers", ballOf(2, new int[0], new int[0]), 0, 0, NONE, NONE, NONE, NONE);
        DanceCards x = Due.ball(2, 2);
        x.ask(2, 1, 0);
        x.ask(3, 0, 0);
        dueFill("all taken", x, 0, 0, 3, 2, 1, 0);
        x.refuse(0, 2, 1);
        x.refuse(1, 2, 1);
        dueFill("all ladies sit", x, 1, 0, SITS, SITS, NONE, NONE);
        x.ill(2);
        x.ill(3);
        dueFill("all gentlemen ill", x, 2, 0, NONE, NONE, NONE, NONE);
    }

    /** "THE MOST": one, and eight, the most that sixteen people can be */
    private static void oneAndEight() {
        dueFill("one", Due.ball(1, 1), 5, 1, 1, 0);
        dueFill("eight", Due.ball(8, 8), 5, 8, 8, 9, 10, 11, 12, 13, 14, 15, 0, 1, 2, 3, 4, 5, 6, 7);
        dueFill("one lady", Due.ball(1, 15), 5, 1, 1, 0, NONE, NONE);
        dueFill("one gentleman", Due.ball(15, 1), 5, 1, 15, NONE, NONE);
        DanceCards x = new DanceCards();
        for (int i = 0; i < 16; i++) x.person(i >= 8, 0);
        for (int i = 0; i < 8; i++) x.introduce(NONE, i, 15 - i);
        dueFill("gentlemen who came first", x, 0, 8, 15, 14, 13, 12, 11, 10, 9, 8, 7, 6, 5, 4, 3, 2, 1, 0);
    }

    /** "of those who are not TAKEN": couples and those who sit stay as they are */
    private static void takenOnesStay() {
        DanceCards x = Due.ball(3, 3);
        x.ask(5, 0, 0);
        x.refuse(1, 3, 0);
        dueFill("beside them", x, 0, 1, 5, SITS, 3, 2, NONE, 0);
        due("the other dances", x.about(2, 0), 1);
    }

    /** "each pair of them being one that can become a COUPLE there now": every custom counts */
    private static void customsCount() {
        DanceCards x = Due.ball(2, 2);
        x.ask(2, 0, 1);
        x.ask(3, 1, 1);
        Due.tell(x, "pair 1;");
        dueFill("pair", x, 5, 2, 3, 2, 1, 0);
        Due.tell(x, "row 1;");
        dueFill("row", x, 2, 0, NONE, NONE, NONE, NONE);
        Due.tell(x, "supper 9;");
        x.part(3, 0, 5);
        x.part(2, 1, 5);
        dueFill("supper", x, 9, 2, 2, 3, 0, 1);
        DanceCards y = new DanceCards();
        for (int i = 0; i < 4; i++) y.person(i < 2, 3 * i);
        for (int i = 0; i < 4; i++) y.introduce(NONE, i / 2, 2 + i % 2);
        Due.tell(y, "rank 6;");
        dueFill("rank", y, 0, 2, 2, 3, 0, 1);
        Due.tell(y, "rank 5;");
        dueFill("rank, one less", y, 1, 1, NONE, 2, 1, NONE);
    }

    /** "(each for itself)": a pair counts as it is now, not as it would be beside the others that are made */
    private static void eachForItself() {
        DanceCards x = Due.ball(3, 3);
        Due.tell(x, "pair 1; row 1;");
        dueFill("three at once", x, 0, 3, 3, 4, 5, 0, 1, 2);
        dueFill("in the dance behind", x, 1, 0, NONE, NONE, NONE, NONE, NONE, NONE);
        dueFill("in the dance behind that", x, 2, 3, 4, 5, 3, 2, 0, 1);
    }

    /** "FILLED: .. each gets the least GENTLEMAN with whom THE MOST can still be had" */
    private static void leastGentleman() {
        dueFill("the least one", ballOf(2, new int[] {1, 2}), 0, 1, 1, 0, NONE);
        dueFill("not the least one: another has him alone", ballOf(2, new int[] {2, 3}, new int[] {2}), 0, 2, 3, 2, 1, 0);
        dueFill("the least, though it costs another the least", ballOf(2, new int[] {2, 3}, new int[] {2, 3}), 0, 2, 2, 3, 0, 1);
        dueFill("a chain of three", ballOf(3, new int[] {3, 4}, new int[] {3, 5}, new int[] {3}), 0, 3, 4, 5, 3, 2, 0, 1);
        dueFill("a chain of four", ballOf(4, new int[] {4, 5}, new int[] {5, 6}, new int[] {6, 7}, new int[] {4}), 0, 4,
                5, 6, 7, 4, 3, 0, 1, 2);
        dueFill("the one who is ahead counts", ballOf(3, new int[] {3}, new int[] {3, 4}, new int[] {4, 5}), 0, 3, 3, 4, 5);
    }

    /** The longest chain that there can be: seven ladies give way to the eighth, who knows one gentleman alone. */
    private static void longestChain() {
        int[][] rows = new int[8][];
        for (int l = 0; l < 7; l++) rows[l] = new int[] {8 + l, 9 + l};
        rows[7] = new int[] {8};
        dueFill("the longest chain", ballOf(8, rows), 0, 8, 9, 10, 11, 12, 13, 14, 15, 8, 7, 0, 1, 2, 3, 4, 5, 6);
        rows[7] = new int[] {15};
        dueFill("no chain at all", ballOf(8, rows), 0, 8, 8, 9, 10, 11, 12, 13, 14, 15);
    }

    /** "FILLED: .. none, if it can be had without her alone": she who can not; she who comes behind */
    private static void noneForHer() {
        dueFill("who knows nobody", ballOf(1, new int[0], new int[] {2}), 0, 1, NONE, 2, 1);
        dueFill("two for one: the least gets him", ballOf(1, new int[] {2}, new int[] {2}), 0, 1, 2, NONE, 0);
        dueFill("three for two", ballOf(2, new int[] {3, 4}, new int[] {3}, new int[] {4}), 0, 2, 3, NONE, 4, 0, 2);
        dueFill("the middle one", ballOf(2, new int[] {3}, new int[] {3}, new int[] {4}), 0, 2, 3, NONE, 4, 0, 2);
    }

    /** THE MOST of chance balls is what trying every way finds; filling makes as many, of pairs that can. */
    private static void mostOfChanceBalls() {
        Random random = new Random(7);
        for (int run = 0; run < 300; run++) {
            int ladies = 1 + random.nextInt(8);
            int gentlemen = 1 + random.nextInt(8);
            DanceCards x = new DanceCards();
            for (int p = 0; p < ladies + gentlemen; p++) x.person(p < ladies, 0);
            int[] known = new int[ladies];
            for (int l = 0; l < ladies; l++) {
                for (int g = 0; g < gentlemen; g++) {
                    if (random.nextInt(3) != 0) continue;
                    x.introduce(NONE, l, ladies + g);
                    known[l] |= 1 << g;
                }
            }
            int most = most(known, 0, 0);
            due("could", x.could(7), most);
            due("fill", x.fill(7), most);
            due("couples", x.count(2), most);
            for (int l = 0; l < ladies; l++) {
                int g = x.card(l, 7);
                if (g != NONE) due("a pair that can", known[l] >> g - ladies & 1, 1);
            }
        }
    }

    private static int most(int[] known, int l, int used) {
        if (l == known.length) return 0;
        int best = most(known, l + 1, used);
        for (int g = 0; g < 8; g++) {
            int bit = 1 << g;
            if ((known[l] & ~used & bit) != 0) best = Math.max(best, 1 + most(known, l + 1, used | bit));
        }
        return best;
    }

    public static void main(String[] args) {
        badDances();
        nobodyCan();
        oneAndEight();
        takenOnesStay();
        customsCount();
        eachForItself();
        leastGentleman();
        longestChain();
        noneForHer();
        mostOfChanceBalls();
        Due.finish();
    }
}
