/** Promises 28 to 30 at their edges. Each method tests the sentence of the document that stands above it. */
public final class SetsEdgeTest {
    private static final int NONE = DanceCards.NONE;

    private static void due(String call, long got, long want) {
        Due.due(call, got, want);
    }

    /** Couples in dance d: lady i with gentleman number - 1 - i, so that ladies and gentlemen stand the other way round. */
    private static DanceCards crossed(int number, int d) {
        DanceCards x = Due.ball(number, number);
        for (int i = number - 1; i >= 0; i--) x.ask(2 * number - 1 - i, i, d);
        return x;
    }

    /** The sets of the couples in the order of their ladies; both of a couple are in one. */
    private static void dueSets(String what, DanceCards x, int d, int number, int... wanted) {
        due(what + ": sets", x.sets(d), number);
        for (int l = 0; l < wanted.length; l++) {
            due(what + ": set of lady " + l, x.set(l, d), wanted[l]);
            int g = x.card(l, d);
            if (g >= 0) due(what + ": set of her partner", x.set(g, d), wanted[l]);
        }
    }

    /** "sets: BAD"; "set: BAD; NONE: of no COUPLE there": BAD ahead of NONE */
    private static void badNumbers() {
        DanceCards x = Due.ball(2, 2);
        x.ask(2, 0, 0);
        x.ask(3, 1, 23);
        x.refuse(1, 3, 0);
        Due.dueBadOutside("sets", 0, 23, x::sets);
        Due.dueBadOutside("set: person", 0, 3, p -> x.set(p, 0));
        Due.dueBadOutside("set: person of an empty dance", 0, 3, p -> x.set(p, 5));
        Due.dueBadOutside("set: dance", 0, 23, d -> x.set(0, d));
        due("the first dance", x.sets(0), 1);
        Due.dueRow("the first dance: set", p -> x.set(p, 0), 0, NONE, 0, NONE);
        due("the last dance", x.sets(23), 1);
        Due.dueRow("the last dance: set", p -> x.set(p, 23), NONE, 0, NONE, 0);
        due("an empty dance", x.sets(5), 0);
        Due.dueRow("an empty dance: set", p -> x.set(p, 5), NONE, NONE, NONE, NONE);
    }

    /** "SETS 0, 1, .. of four at most": every number of couples */
    private static void fourAtMost() {
        for (int number = 0; number <= 8; number++) {
            int[] wanted = new int[number];
            for (int i = 0; i < number; i++) wanted[i] = i / 4;
            dueSets(number + " couples", crossed(number, 7), 7, (number + 3) / 4, wanted);
        }
    }

    /** "its COUPLES by LADIES": whoever asked first */
    private static void couplesByLadies() {
        DanceCards x = Due.ball(6, 6);
        int[] ladies = {5, 3, 4, 0, 2};
        for (int i = 0; i < 5; i++) x.ask(6 + i, ladies[i], 2);
        dueSets("the lady 5 is the fifth", x, 2, 2, 0, NONE, 0, 0, 0, 1);
    }

    /** Numbers are as people came: it goes by ladies, though their partners stand the other way round or came first. */
    private static void couplesWhoeverCameFirst() {
        DanceCards x = new DanceCards();
        for (int p = 0; p < 16; p++) x.person(p % 2 == 1, 0);
        for (int p = 0; p < 16; p += 2) x.introduce(NONE, p, 15 - p);
        for (int p = 0; p < 16; p += 2) due("ask", x.ask(p, 15 - p, 1), 1);
        due("sets", x.sets(1), 2);
        for (int p = 0; p < 16; p++) {
            int lady = p % 2 == 1 ? p : 15 - p;
            due("set of " + p, x.set(p, 1), lady < 8 ? 0 : 1);
        }
        x.feud(0, 14, true);
        due("of the last lady's partner and the first's", x.set(0, 1) + x.set(14, 1), 1);
        x.feud(12, 14, true);
        due("the first two part", x.set(3, 1), 1);
    }

    /** "no two of one SET (of two COUPLES) at FEUD": each of the four ways two couples can be at feud */
    private static void feudsOfTwoCouples() {
        int[][] ways = {{0, 1}, {0, 2}, {3, 1}, {3, 2}, {1, 0}, {2, 0}, {1, 3}, {2, 3}};
        for (int[] way : ways) {
            DanceCards x = crossed(2, 0);
            dueSets("no feud", x, 0, 1, 0, 0);
            x.feud(way[0], way[1], true);
            dueSets("feud of " + way[0] + " and " + way[1], x, 0, 2, 0, 1);
            x.feud(way[0], way[1], false);
            dueSets("no feud any more", x, 0, 1, 0, 0);
        }
    }

    /** "(of two COUPLES)": those of one couple may be at feud; so may one who does not dance */
    private static void feudsThatDoNotCount() {
        DanceCards x = Due.ball(3, 3);
        x.ask(3, 0, 0);
        x.ask(4, 1, 0);
        x.feud(0, 3, true);
        x.feud(1, 4, true);
        dueSets("of one couple", x, 0, 1, 0, 0);
        for (int p = 0; p < 5; p++) if (p != 2) x.feud(p, 5, true);
        x.feud(2, 0, true);
        x.feud(2, 4, true);
        dueSets("with those who do not dance", x, 0, 1, 0, 0, NONE);
    }

    /** "with the fewest SETS": each by itself at the most */
    private static void eightSets() {
        DanceCards x = crossed(8, 23);
        for (int a = 0; a < 8; a++) for (int b = 0; b < a; b++) x.feud(8 + a, 8 + b, true);
        dueSets("all at feud", x, 23, 8, 0, 1, 2, 3, 4, 5, 6, 7);
        x.feud(8, 15, false);
        dueSets("but the first and the last", x, 23, 7, 0, 1, 2, 3, 4, 5, 6, 0);
    }

    /** "with the fewest SETS", where the least set for each in turn would need more */
    private static void fewestAheadOfLeast() {
        DanceCards x = crossed(4, 0);
        x.feud(0, 2, true);
        x.feud(2, 3, true);
        x.feud(3, 1, true);
        dueSets("0 and 1 must part", x, 0, 2, 0, 1, 1, 0);
        DanceCards y = crossed(5, 0);
        y.feud(4, 0, true);
        dueSets("the fifth goes alone", y, 0, 2, 0, 0, 0, 0, 1);
        DanceCards z = crossed(8, 0);
        for (int l = 4; l < 7; l++) z.feud(7, l, true);
        dueSets("two full sets", z, 0, 2, 0, 0, 0, 1, 1, 1, 1, 0);
        z.feud(7, 0, true);
        dueSets("two full sets, another way", z, 0, 2, 0, 1, 1, 1, 0, 0, 0, 1);
        z.feud(7, 1, true);
        dueSets("too few are left for a full set", z, 0, 3, 0, 0, 0, 0, 1, 1, 1, 2);
    }

    /** "of several ways the one with the least SET of the first COUPLE, then of the second one, and so on" */
    private static void leastInTurn() {
        DanceCards x = crossed(4, 0);
        x.feud(0, 1, true);
        dueSets("back to the first set", x, 0, 2, 0, 1, 0, 0);
        x.feud(0, 2, true);
        dueSets("two in the second", x, 0, 2, 0, 1, 1, 0);
        x.feud(1, 2, true);
        dueSets("three", x, 0, 3, 0, 1, 2, 0);
        x.feud(3, 0, true);
        dueSets("the fourth into the second", x, 0, 3, 0, 1, 2, 1);
        x.feud(3, 1, true);
        dueSets("the fourth into the third", x, 0, 3, 0, 1, 2, 2);
        x.feud(3, 2, true);
        dueSets("the fourth into its own", x, 0, 4, 0, 1, 2, 3);
    }

    /** Every set of feuds of four couples: the sets are what trying every way finds. */
    private static void everyFeudOfFour() {
        for (int feuds = 0; feuds < 64; feuds++) {
            boolean[][] foes = new boolean[4][4];
            DanceCards x = crossed(4, 3);
            int bit = 0;
            for (int a = 0; a < 4; a++) {
                for (int b = 0; b < a; b++, bit++) {
                    foes[a][b] = (feuds >> bit & 1) == 1;
                    // Lady or partner, by turns: 7 - a is the partner of a.
                    if (foes[a][b]) x.feud(bit % 2 == 0 ? a : 7 - a, bit % 3 == 0 ? b : 7 - b, true);
                }
            }
            int[] best = bestSets(foes);
            int number = 0;
            for (int set : best) number = Math.max(number, set + 1);
            dueSets("feuds " + feuds, x, 3, number, best);
        }
    }

    private static int[] bestSets(boolean[][] foes) {
        for (int number = 1; number <= 4; number++) {
            for (int way = 0; way < 256; way++) {
                int[] sets = {way >> 6 & 3, way >> 4 & 3, way >> 2 & 3, way & 3};
                boolean fits = true;
                for (int a = 0; a < 4; a++) {
                    fits &= sets[a] < number;
                    for (int b = 0; b < a; b++) fits &= sets[a] != sets[b] || !foes[a][b];
                }
                if (fits) return sets;
            }
        }
        throw new IllegalStateException();
    }

    /** "count: BAD": not 0 to 7 */
    private static void countIsBad() {
        DanceCards x = new DanceCards();
        Due.dueBadOutside("count of a new ball", 0, 7, x::count);
        DanceCards y = Due.ball(8, 8);
        Due.dueBadOutside("count of a full ball", 0, 7, y::count);
    }

    /** "How many": none of each, one of each */
    private static void countNoneAndOne() {
        DanceCards x = new DanceCards();
        Due.dueRow("count of a new ball", x::count, 0, 0, 0, 0, 0, 0, NONE, 0);
        x.person(false, 0);
        Due.dueRow("a gentleman", x::count, 1, 0, 0, 0, 0, 0, NONE, 0);
        x.person(true, 0);
        Due.dueRow("a lady", x::count, 2, 1, 0, 0, 0, 0, NONE, 0);
        x.introduce(NONE, 1, 0);
        Due.dueRow("a pair who know", x::count, 2, 1, 0, 0, 0, 1, NONE, 0);
        x.ask(0, 1, 23);
        Due.dueRow("a couple", x::count, 2, 1, 1, 0, 0, 1, NONE, 0);
        x.refuse(1, 0, 0);
        x.feud(0, 1, true);
        x.wish(1, 0, 3);
        Due.dueRow("what is not counted", x::count, 2, 1, 1, 0, 0, 1, NONE, 0);
        Due.tell(x, "row 1;");
        Due.dueRow("a custom", x::count, 2, 1, 1, 1, 0, 1, NONE, 0);
        x.sheet(0, 0, 1);
        Due.dueRow("a cell", x::count, 2, 1, 1, 1, 0, 1, 1, 0);
        Due.type(x, "?");
        Due.dueRow("a byte", x::count, 2, 1, 1, 1, 0, 1, 1, 1);
        x.ill(1);
        Due.dueRow("an ill one", x::count, 2, 1, 0, 1, 1, 1, 1, 1);
        x.well(1);
        x.customs();
        Due.dueRow("well; a fault", x::count, 2, 1, 0, 1, 0, 1, 1, 0);
    }

    /** "How many": the most of each that there can be */
    private static void countTheMost() {
        DanceCards x = Due.ball(8, 8);
        for (int d = 0; d < 24; d++) due("fill", x.fill(d), 8);
        for (int a = 0; a < 8; a++) {
            for (int b = 0; b < a; b++) due("introduce", x.introduce(NONE, a, b) + x.introduce(NONE, 8 + a, 8 + b), 2);
        }
        Due.tell(x, "pair 24; rank 9; row 24; supper 23;");
        x.sheet(0, 2, 60);
        Due.type(x, " ".repeat(100));
        Due.dueRow("the most", x::count, 16, 8, 192, 4, 0, 120, 60, 100);
        int parted = 0;
        for (int p = 0; p < 16; p++) parted += x.ill(p);
        due("all couples are no more", parted, 192);
        Due.dueRow("all are ill", x::count, 16, 8, 0, 4, 16, 120, 60, 100);
        DanceCards y = Due.ball(16, 0);
        due("all are ladies", y.count(1), 16);
        DanceCards z = Due.ball(0, 16);
        due("none is a lady", z.count(1), 0);
    }

    public static void main(String[] args) {
        badNumbers();
        fourAtMost();
        couplesByLadies();
        couplesWhoeverCameFirst();
        feudsOfTwoCouples();
        feudsThatDoNotCount();
        eightSets();
        fewestAheadOfLeast();
        leastInTurn();
        everyFeudOfFour();
        countIsBad();
        countNoneAndOne();
        countTheMost();
        Due.finish();
    }
}
