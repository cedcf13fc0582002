import java.util.Random;

/** Promises 25 to 27 at their edges. Each method tests the sentence of the document that stands above it. */
public final class WishesEdgeTest {
    private static final int BAD = DanceCards.BAD, NONE = DanceCards.NONE;

    private static void due(String call, long got, long want) {
        Due.due(call, got, want);
    }

    private static void dueLaid(String what, DanceCards x, int p, int... wanted) {
        Due.dueRow(what + ": laid of " + p + ", dance", d -> x.laid(p, d), wanted);
    }

    /** Ladies first, then gentlemen; nobody knows anybody. */
    private static DanceCards strangers(int ladies, int gentlemen) {
        DanceCards x = new DanceCards();
        for (int i = 0; i < ladies + gentlemen; i++) x.person(i < ladies, 0);
        return x;
    }

    /** "wish: BAD": people; the first no lady, the second no gentleman */
    private static void wishIsBad() {
        DanceCards x = strangers(2, 2);
        Due.dueBadOutside("wish: lady", 0, 3, p -> x.wish(p, 2, 1));
        Due.dueBadOutside("wish: gentleman", 0, 3, p -> x.wish(0, p, 1));
        int[][] wrong = {{2, 0}, {3, 1}, {0, 1}, {2, 3}, {0, 0}, {2, 2}};
        for (int[] pair : wrong) due("wish " + pair[0] + " " + pair[1], x.wish(pair[0], pair[1], 1), BAD);
        due("no wishes", x.fewest(), 0);
    }

    /** "wish: BAD: also not 0 to 4"; "how many there were"; "(0 at first)" */
    private static void wishNumbers() {
        DanceCards x = strangers(2, 2);
        Due.dueBadOutside("wish: n", 0, 4, n -> x.wish(0, 2, n));
        due("0 at first", x.wish(0, 2, 0), 0);
        due("0 still", x.wish(0, 2, 1), 0);
        for (int n = 0; n <= 4; n++) {
            due("how many there were", x.wish(0, 2, n), n == 0 ? 1 : n - 1);
            Due.dueBadOutside("wish: n, with " + n, 0, 4, m -> x.wish(0, 2, m));
            due("refused ones changed nothing", x.fewest(), n);
        }
        due("of the others", x.wish(0, 3, 0) + x.wish(1, 2, 0) + x.wish(1, 3, 0), 0);
    }

    /** Wishes are there whoever they are: strangers, at feud, ill, of any rank; and no couples come of them. */
    private static void wishesOfAnybody() {
        DanceCards x = strangers(1, 1);
        x.feud(0, 1, true);
        x.ill(0);
        Due.tell(x, "rank 0; pair 1;");
        due("wish", x.wish(0, 1, 4), 0);
        due("fewest", x.fewest(), 4);
        dueLaid("hers", x, 0, 1, 1, 1, 1, NONE);
        due("no couples", x.count(2), 0);
        due("no card", x.card(0, 0), NONE);
    }

    /** "fewest: the most that one has": none, a lady's, a gentleman's */
    private static void fewestIsOfOne() {
        DanceCards x = strangers(3, 3);
        due("none", x.fewest(), 0);
        x.wish(2, 5, 1);
        due("one", x.fewest(), 1);
        x.wish(0, 3, 2);
        due("not all together", x.fewest(), 2);
        x.wish(0, 4, 3);
        due("a lady's", x.fewest(), 5);
        x.wish(1, 4, 4);
        due("a gentleman's", x.fewest(), 7);
        x.wish(0, 4, 0);
        due("less", x.fewest(), 4);
        x.wish(1, 4, 0);
        x.wish(0, 3, 0);
        x.wish(2, 5, 0);
        due("none again", x.fewest(), 0);
        dueLaid("none again", x, 0, NONE, NONE);
    }

    /** "nobody has more than 60": fifteen others with four each, of a lady and of a gentleman */
    private static void sixtyOfOne() {
        DanceCards x = strangers(1, 15);
        for (int g = 1; g < 16; g++) {
            x.wish(0, g, 4);
            due("fewest", x.fewest(), 4 * g);
        }
        for (int d = 0; d < 64; d++) due("hers in " + d, x.laid(0, d), d < 60 ? 1 + d / 4 : NONE);
        for (int d = 0; d < 64; d++) due("the last one's in " + d, x.laid(15, d), d >= 56 && d < 60 ? 0 : NONE);
        DanceCards y = strangers(15, 1);
        for (int l = 0; l < 15; l++) y.wish(l, 15, 4);
        due("fewest", y.fewest(), 60);
        int sum = 0;
        for (int d = 0; d < 64; d++) sum += y.laid(15, d) >= 0 ? 1 : 0;
        due("his", sum, 60);
        due("his last one", y.laid(15, 60), NONE);
    }

    /** Sixteen people, all with all: eight with eight, four each, are 32 dances without a gap. */
    private static void allWithAll() {
        DanceCards x = strangers(8, 8);
        for (int l = 0; l < 8; l++) for (int g = 8; g < 16; g++) x.wish(l, g, 4);
        due("fewest", x.fewest(), 32);
        for (int p = 0; p < 8; p++) {
            for (int d = 0; d < 34; d++) due("somebody in " + d, x.laid(p, d) >= 8 ? 1 : 0, d < 32 ? 1 : 0);
        }
    }

    /** "laid: BAD; NONE": "DANCE d (0 to 63)" */
    private static void laidIsBad() {
        DanceCards x = strangers(2, 2);
        for (int round = 0; round < 2; round++) {
            Due.dueBadOutside("laid: person", 0, 3, p -> x.laid(p, 0));
            Due.dueBadOutside("laid: dance", 0, 63, d -> x.laid(0, d));
            for (int d : new int[] {1, 23, 24, 32, 62, 63}) due("none in " + d, x.laid(0, d), NONE);
            due("the first dance", x.laid(0, 0), round == 0 ? NONE : 2);
            due("who has no wishes", x.laid(1, 0), NONE);
            x.wish(0, 2, 1);
        }
    }

    /** "a: the least one that is free for the LADY .., b: .. for the GENTLEMAN. If a and b are one, it is put there." */
    private static void laidWhereBothAreFree() {
        DanceCards x = strangers(2, 2);
        x.wish(0, 2, 2);
        x.wish(1, 3, 1);
        dueLaid("two", x, 0, 2, 2, NONE);
        dueLaid("two", x, 2, 0, 0, NONE);
        dueLaid("one", x, 1, 3, NONE);
        dueLaid("one", x, 3, 1, NONE);
    }

    /** "Else the row that begins at the GENTLEMAN with what he has in a": of nothing; of one; of two; of three */
    private static void laidByRows() {
        DanceCards none = strangers(1, 2);
        none.wish(0, 1, 1);
        none.wish(0, 2, 1);
        dueLaid("a row of nothing: he has nothing in 1", none, 0, 1, 2, NONE);
        dueLaid("a row of nothing", none, 2, NONE, 0, NONE);
        DanceCards one = strangers(2, 1);
        one.wish(0, 2, 1);
        one.wish(1, 2, 1);
        dueLaid("a row of one", one, 0, NONE, 2, NONE);
        dueLaid("a row of one", one, 1, 2, NONE, NONE);
        dueLaid("a row of one", one, 2, 1, 0, NONE);
        DanceCards two = strangers(2, 2);
        two.wish(0, 2, 1);
        two.wish(0, 3, 1);
        two.wish(1, 2, 1);
        dueLaid("a row of two", two, 0, 3, 2, NONE);
        dueLaid("a row of two", two, 1, 2, NONE, NONE);
        dueLaid("a row of two", two, 2, 1, 0, NONE);
        dueLaid("a row of two", two, 3, 0, NONE, NONE);
        DanceCards three = strangers(3, 2);
        three.wish(0, 3, 1);
        three.wish(0, 4, 1);
        three.wish(1, 4, 1);
        three.wish(2, 3, 1);
        // The third: a 0, b 0. The fourth: a 0, b 1, and the row is 3-0 in 0, 0-4 in 1, 4-1 in 0.
        dueLaid("a row of three", three, 0, 4, 3, NONE);
        dueLaid("a row of three", three, 1, NONE, 4, NONE);
        dueLaid("a row of three", three, 2, 3, NONE, NONE);
        dueLaid("a row of three", three, 3, 2, 0, NONE);
        dueLaid("a row of three", three, 4, 0, 1, NONE);
    }

    /** The longest row that there can be: it begins at gentleman 8 and goes through all but lady 7. */
    private static void laidByTheLongestRow() {
        DanceCards x = strangers(8, 8);
        for (int l = 0; l < 7; l++) {
            x.wish(l, 8 + l, 1);
            x.wish(l, 9 + l, 1);
        }
        for (int l = 0; l < 7; l++) dueLaid("ahead of it", x, l, 8 + l, 9 + l, NONE);
        x.wish(7, 8, 1);
        for (int l = 0; l < 7; l++) dueLaid("all change", x, l, 9 + l, 8 + l, NONE);
        dueLaid("she who wishes", x, 7, 8, NONE, NONE);
        dueLaid("the first one", x, 8, 7, 0, NONE);
        for (int g = 9; g < 15; g++) dueLaid("all change", x, g, g - 9, g - 8, NONE);
        dueLaid("the last one", x, 15, 6, NONE, NONE);
    }

    /** Numbers are as people came: gentlemen may be ahead of ladies, or among them. */
    private static void laidWhoeverCameFirst() {
        DanceCards x = new DanceCards();
        for (int p = 0; p < 16; p++) x.person(p >= 8, 0);
        for (int l = 8; l < 16; l++) for (int g = 0; g < 8; g++) due("wish", x.wish(l, g, 1), 0);
        due("fewest", x.fewest(), 8);
        for (int d = 0; d < 8; d++) due("the first lady", x.laid(8, d) >= 0 ? 1 : 0, 1);
        x.wish(8, 0, 4);
        due("fewest", x.fewest(), 11);
        DanceCards y = new DanceCards();
        for (int p = 0; p < 4; p++) y.person(p % 2 == 1, 0);
        y.wish(1, 0, 1);
        y.wish(1, 2, 1);
        y.wish(3, 0, 1);
        dueLaid("among them", y, 0, 3, 1, NONE);
        dueLaid("among them", y, 1, 2, 0, NONE);
        dueLaid("among them", y, 2, 1, NONE, NONE);
        dueLaid("among them", y, 3, 0, NONE, NONE);
    }

    /** "WISHES by LADIES, then GENTLEMEN, then one by one": not as they were told */
    private static void laidInOrder() {
        DanceCards x = strangers(2, 2);
        x.wish(1, 3, 1);
        x.wish(0, 3, 1);
        x.wish(0, 2, 1);
        dueLaid("lady 0", x, 0, 2, 3, NONE);
        dueLaid("lady 1", x, 1, 3, NONE, NONE);
        DanceCards y = strangers(2, 2);
        y.wish(0, 2, 1);
        y.wish(0, 3, 1);
        y.wish(1, 3, 1);
        dueLaid("the same", y, 0, 2, 3, NONE);
        dueLaid("the same", y, 1, 3, NONE, NONE);
        y.laid(0, 0);
        y.wish(0, 2, 0);
        dueLaid("laid anew when a wish changes", y, 0, NONE, 3, NONE);
        dueLaid("laid anew when a wish changes", y, 1, 3, NONE);
    }

    /** Whatever the wishes: each gets so many dances with each, both the same ones, none at or behind the fewest. */
    private static void laidIsAPlan() {
        Random random = new Random(11);
        for (int run = 0; run < 200; run++) {
            int ladies = 1 + random.nextInt(3);
            int gentlemen = 1 + random.nextInt(4);
            DanceCards x = strangers(ladies, gentlemen);
            int[][] wanted = new int[ladies][gentlemen];
            for (int l = 0; l < ladies; l++) {
                for (int g = 0; g < gentlemen; g++) {
                    wanted[l][g] = random.nextInt(5);
                    x.wish(l, ladies + g, wanted[l][g]);
                }
            }
            int fewest = x.fewest();
            int[][] got = new int[ladies][gentlemen];
            for (int d = 0; d < 20; d++) {
                for (int l = 0; l < ladies; l++) {
                    int g = x.laid(l, d);
                    if (g == NONE) continue;
                    due("inside of the fewest", d < fewest ? 1 : 0, 1);
                    due("his, too", x.laid(g, d), l);
                    got[l][g - ladies]++;
                }
            }
            for (int l = 0; l < ladies; l++) {
                for (int g = 0; g < gentlemen; g++) due("as many as they wish", got[l][g], wanted[l][g]);
            }
        }
    }

    public static void main(String[] args) {
        wishIsBad();
        wishNumbers();
        wishesOfAnybody();
        fewestIsOfOne();
        sixtyOfOne();
        allWithAll();
        laidIsBad();
        laidWhereBothAreFree();
        laidByRows();
        laidByTheLongestRow();
        laidWhoeverCameFirst();
        laidInOrder();
        laidIsAPlan();
        Due.finish();
    }
}
