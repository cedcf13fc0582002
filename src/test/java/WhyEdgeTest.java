/**
 * Promises 11 and 12 at their edges: WHY a gentleman and a lady can not become a couple, and asking.
 * Each method tests the sentence of the document that stands above it.
 */
public final class WhyEdgeTest {
    private static final int BAD = DanceCards.BAD, NONE = DanceCards.NONE;
    private static final int ILL = 1, STRANGERS = 2, FEUD = 3, RANK = 4, TAKEN = 5, PAIR = 6, ROW = 7, SUPPER = 8;
    private static final int D = 10;

    private static void due(String call, long got, long want) {
        Due.due(call, got, want);
    }

    /** "WHY .., the first that fits": every choice of reasons that can hold at once, by the lady and by the gentleman */
    private static void firstReasonThatFits() {
        for (int choice = 0; choice < 256; choice++) {
            if (!canHoldAtOnce(choice)) continue;
            int wanted = choice == 0 ? 0 : 1 + Integer.numberOfTrailingZeros(choice);
            dueReason(choice, true, wanted);
            dueReason(choice, false, wanted);
        }
    }

    private static boolean has(int choice, int reason) {
        return (choice >> reason - 1 & 1) == 1;
    }

    /** Who are a couple often enough for PAIR know one another, are not ill, and are one in another dance. */
    private static boolean canHoldAtOnce(int choice) {
        return !has(choice, PAIR) || !has(choice, ILL) && !has(choice, STRANGERS) && !has(choice, SUPPER);
    }

    /** Lady 0 and gentleman 1 in dance 10; lady 2 and gentleman 3 make one of the two taken, or his row too long. */
    private static DanceCards ballWith(int choice, boolean byLady) {
        DanceCards x = new DanceCards();
        x.person(true, 3);
        x.person(false, 6);
        x.person(true, 6);
        x.person(false, 3);
        x.introduce(NONE, 0, 3);
        x.introduce(NONE, 1, 2);
        if (!has(choice, STRANGERS)) x.introduce(NONE, 0, 1);
        int g = byLady ? 3 : 1;
        int l = byLady ? 0 : 2;
        if (has(choice, ROW)) x.ask(g, l, D - 1);
        if (has(choice, TAKEN)) x.ask(g, l, D);
        if (has(choice, PAIR)) x.ask(1, 0, D + 5);
        Due.tell(x, "rank " + (has(choice, RANK) ? 2 : 3) + ";" + (has(choice, PAIR) ? "pair 1;" : "")
                + (has(choice, ROW) ? "row 1;" : "") + "supper " + (has(choice, SUPPER) ? D : D + 1) + ";");
        if (has(choice, FEUD)) x.feud(0, 1, true);
        if (has(choice, ILL)) x.ill(byLady ? 1 : 0);
        x.sheet(0, 0, 3);
        x.lay(0, 0, 1);
        x.lay(0, 2, D);
        return x;
    }

    private static void dueReason(int choice, boolean byLady, int wanted) {
        String told = "reasons " + Integer.toBinaryString(choice) + (byLady ? " by the lady" : " by the gentleman");
        DanceCards x = ballWith(choice, byLady);
        due("why: " + told, x.why(1, 0, D), wanted);
        int couples = x.count(2);
        if (wanted != 0) {
            due("ask: " + told, x.ask(1, 0, D), -10 - wanted);
            due("refuse: " + told, x.refuse(0, 1, D), -10 - wanted);
            due("scan: " + told, x.scan(0, 0, 0, 1), -30 - wanted);
            due("couples: " + told, x.count(2), couples);
            due("sits: " + told, x.about(0, 3), 0);
            return;
        }
        due("ask: " + told, x.ask(1, 0, D), 1);
        due("refuse: " + told, ballWith(choice, byLady).refuse(0, 1, D), 1);
        due("scan: " + told, ballWith(choice, byLady).scan(0, 0, 0, 1), 1);
    }

    /** "1 one of them is ILL": the gentleman, the lady, both, another */
    private static void ill() {
        DanceCards x = Due.ball(2, 2);
        x.ill(3);
        x.ill(1);
        due("others", x.why(2, 0, 0), 0);
        due("the gentleman", x.why(3, 0, 0), ILL);
        due("the lady", x.why(2, 1, 0), ILL);
        due("both", x.why(3, 1, 0), ILL);
        x.well(3);
        x.well(1);
        due("none any more", x.why(3, 1, 0), 0);
    }

    /** "2 they do not KNOW one another": though both know a third one */
    private static void strangers() {
        DanceCards x = new DanceCards();
        for (int i = 0; i < 3; i++) x.person(i == 0, 0);
        x.introduce(NONE, 0, 1);
        x.introduce(NONE, 1, 2);
        due("strangers", x.ask(2, 0, 0), -10 - STRANGERS);
        x.introduce(1, 0, 2);
        due("no more", x.ask(2, 0, 0), 1);
    }

    /** "3 they are at FEUD": a feud with others does not count */
    private static void feud() {
        DanceCards x = Due.ball(2, 2);
        x.feud(0, 1, true);
        x.feud(2, 3, true);
        x.feud(0, 3, true);
        due("each with others", x.why(2, 0, 0), 0);
        due("with one another", x.why(3, 0, 0), FEUD);
    }

    /** "rank: 0 to 9 (their RANKS differ by so much at most)": every two ranks under every rank told */
    private static void ranks() {
        for (int told = 0; told <= 9; told++) {
            DanceCards x = new DanceCards();
            x.person(true, 0);
            x.person(true, 9);
            for (int r = 0; r <= 9; r++) {
                x.person(false, r);
                x.introduce(NONE, 0, 2 + r);
                x.introduce(NONE, 1, 2 + r);
            }
            for (int r = 0; r <= 9; r++) due("not told", x.why(2 + r, 0, 0) + x.why(2 + r, 1, 0), 0);
            Due.tell(x, "rank " + told + ";");
            for (int r = 0; r <= 9; r++) {
                due("rank " + told + ", 0 and " + r, x.why(2 + r, 0, 0), r > told ? RANK : 0);
                due("rank " + told + ", 9 and " + r, x.why(2 + r, 1, 0), 9 - r > told ? RANK : 0);
            }
        }
    }

    /** "5 one of them is TAKEN": of a couple there with another, with one another, or sitting; in this dance alone */
    private static void taken() {
        DanceCards x = Due.ball(3, 3);
        x.ask(3, 0, 5);
        x.refuse(1, 4, 5);
        due("with one another", x.why(3, 0, 5), TAKEN);
        due("the gentleman", x.why(3, 2, 5), TAKEN);
        due("the lady", x.why(4, 0, 5), TAKEN);
        due("she sits", x.why(4, 1, 5), TAKEN);
        due("she sits, he is of a couple", x.why(3, 1, 5), TAKEN);
        due("the dance ahead", x.why(3, 0, 4), 0);
        due("the dance behind", x.why(4, 1, 6), 0);
        due("he whom she refused is free", x.why(4, 2, 5), 0);
        x.part(3, 0, 5);
        due("no more", x.why(3, 2, 5) + x.why(4, 0, 5), 0);
    }

    /** "pair: 1 to 24 (two are a COUPLE in so many DANCES at most)": "it would be one too many", at every number */
    private static void pairs() {
        for (int told = 1; told <= 24; told++) {
            DanceCards x = Due.ball(2, 2);
            Due.tell(x, "pair " + told + ";");
            for (int d = 0; d < 24; d++) {
                due("pair " + told + ", dance " + d, x.ask(3, 1, 23 - d), d < told ? 1 : -10 - PAIR);
            }
            due("dances", x.about(3, 0), told);
            due("with another lady", x.why(3, 0, 0), told < 24 ? 0 : TAKEN);
            due("with another gentleman", x.why(2, 1, 0), told < 24 ? 0 : TAKEN);
            x.part(3, 1, 23);
            due("one less", x.ask(3, 1, told < 24 ? 0 : 23), 1);
        }
    }

    /** "row: 1 to 24 (.. in so many DANCES next to one another at most)": growing from either end, at every number */
    private static void rowsThatGrow() {
        for (int told = 1; told <= 24; told++) {
            DanceCards up = Due.ball(2, 2);
            DanceCards down = Due.ball(2, 2);
            Due.tell(up, "row " + told + ";");
            Due.tell(down, "row " + told + ";");
            int row = 0;
            for (int d = 0; d < 24; d++) {
                int wanted = row < told ? 1 : -10 - ROW;
                due("row " + told + " up, dance " + d, up.ask(2, 0, d), wanted);
                due("row " + told + " down, dance " + d, down.ask(3, 1, 23 - d), wanted);
                row = row < told ? row + 1 : 0;
            }
            due("longest", up.about(0, 2), told);
        }
    }

    /** A dance between two rows makes one of them: so many ahead, so many behind, of the one or of the other */
    private static void rowsThatJoin() {
        for (int ahead = 0; ahead <= 3; ahead++) {
            for (int behind = 0; behind <= 3; behind++) {
                for (int side = 0; side < 2; side++) {
                    DanceCards x = Due.ball(2, 2);
                    for (int d = D - ahead; d <= D + behind; d++) if (d != D) x.ask(2 + side, side, d);
                    due("no row is told", x.why(2, 1, D) + x.why(3, 0, D), 0);
                    int row = ahead + behind + 1;
                    Due.tell(x, "row " + row + ";");
                    due("just so", x.why(2, 1, D) + x.why(3, 0, D), 0);
                    if (row == 1) continue;
                    Due.tell(x, "row " + (row - 1) + ";");
                    due("too long for him", x.why(2 + side, 1 - side, D), ROW);
                    due("too long for her", x.why(3 - side, side, D), ROW);
                    due("of the others", x.why(3 - side, 1 - side, D), 0);
                }
            }
        }
    }

    /** "DANCES next to one another": the last dance and the first are not, nor are those with one between */
    private static void rowsDoNotGoRound() {
        DanceCards x = Due.ball(2, 2);
        Due.tell(x, "row 1;");
        due("the last", x.ask(2, 0, 23), 1);
        due("the first", x.ask(2, 0, 0), 1);
        due("the last but two", x.ask(2, 0, 21), 1);
        due("the last but one", x.ask(2, 0, 22), -10 - ROW);
        due("the second", x.ask(2, 0, 1), -10 - ROW);
        due("the third", x.ask(2, 0, 2), 1);
        due("another one's neighbours do not count", x.ask(3, 1, 1), 1);
    }

    /** Couples of others in the first dance and in the last make no row of one who is of none: all numbers, both sides */
    private static void rowsAreOfOneAlone() {
        for (int first = 0; first < 2; first++) {
            DanceCards x = new DanceCards();
            for (int p = 0; p < 16; p++) x.person(p % 2 == first, 0);
            for (int p = 0; p < 16; p += 2) x.introduce(NONE, p, p + 1);
            Due.tell(x, "row 1;");
            for (int p = 0; p < 16; p += 4) {
                int g = first == 0 ? p + 1 : p;
                due("the first dance", x.ask(g, 2 * p + 1 - g, 0), 1);
                due("the last dance", x.ask(g, 2 * p + 1 - g, 23), 1);
            }
            for (int p = 2; p < 16; p += 4) {
                int g = first == 0 ? p + 1 : p;
                due("between others, the last dance", x.why(g, 2 * p + 1 - g, 23), 0);
                due("between others, the first dance", x.why(g, 2 * p + 1 - g, 0), 0);
            }
        }
    }

    /** One who sits is of no couple: it makes no row. */
    private static void sittingIsNoRow() {
        DanceCards x = Due.ball(1, 1);
        Due.tell(x, "row 1;");
        x.refuse(0, 1, 4);
        x.refuse(0, 1, 6);
        due("between two that she sits", x.ask(1, 0, 5), 1);
    }

    /** "supper: 0 to 23 (in this DANCE only those are a COUPLE who are one in another DANCE, too)" at every dance */
    private static void suppers() {
        for (int told = 0; told <= 23; told++) {
            DanceCards x = Due.ball(2, 2);
            Due.tell(x, "supper " + told + ";");
            for (int d = 0; d < 24; d++) due("supper " + told + ", dance " + d, x.why(2, 0, d), d == told ? SUPPER : 0);
            int other = 23 - told;
            x.ask(2, 0, other);
            due("who are one in another dance", x.why(2, 0, told), 0);
            due("he with another", x.why(2, 1, told), SUPPER);
            due("she with another", x.why(3, 0, told), SUPPER);
            x.part(2, 0, other);
            due("no more", x.why(2, 0, told), SUPPER);
            x.refuse(0, 2, other);
            due("sitting is no couple", x.why(2, 0, told), SUPPER);
        }
    }

    /** "What is not told does not hold." */
    private static void whatIsNotTold() {
        DanceCards x = new DanceCards();
        x.person(true, 0);
        x.person(false, 9);
        x.introduce(NONE, 0, 1);
        for (int d = 0; d < 24; d++) due("dance " + d, x.ask(1, 0, d), 1);
        due("all of them", x.about(0, 2), 24);
        for (int d = 0; d < 24; d++) x.part(1, 0, d);
        Due.tell(x, "pair 1; rank 0; row 1; supper 3;");
        due("rank", x.why(1, 0, 3), RANK);
        Due.tell(x, "");
        for (int d = 0; d < 24; d++) due("told no more, dance " + d, x.ask(1, 0, d), 1);
    }

    /** "Customs that there are now; COUPLES that there are stay, whatever is told later." */
    private static void couplesStay() {
        DanceCards x = new DanceCards();
        x.person(true, 0);
        x.person(false, 9);
        x.introduce(NONE, 0, 1);
        for (int d = 0; d < 24; d++) if (d != D) x.ask(1, 0, d);
        Due.tell(x, "pair 1; rank 0; row 1; supper 3;");
        due("couples", x.count(2), 23);
        due("now: rank", x.why(1, 0, D), RANK);
        Due.tell(x, "pair 1; row 1; supper 10;");
        due("now: pair", x.why(1, 0, D), PAIR);
        Due.tell(x, "row 1; supper 10;");
        due("now: row", x.why(1, 0, D), ROW);
        Due.tell(x, "supper 10;");
        due("now none: they are one in another dance", x.why(1, 0, D), 0);
        due("couples still", x.count(2), 23);
    }

    /** "BAD: there is no such PERSON, DANCE" of ask and why */
    private static void badNumbers() {
        DanceCards x = Due.ball(2, 2);
        Due.dueBadOutside("ask: gentleman", 0, 3, p -> x.ask(p, 0, 0));
        Due.dueBadOutside("ask: lady", 0, 3, p -> x.ask(2, p, 0));
        Due.dueBadOutside("ask: dance", 0, 23, d -> x.ask(2, 0, d));
        Due.dueBadOutside("why: gentleman", 0, 3, p -> x.why(p, 0, 0));
        Due.dueBadOutside("why: lady", 0, 3, p -> x.why(2, p, 0));
        Due.dueBadOutside("why: dance", 0, 23, d -> x.why(2, 0, d));
        due("couples", x.count(2), 0);
        due("the first dance", x.ask(2, 0, 0), 1);
        due("the last dance", x.ask(3, 1, 23), 1);
        due("cards", x.card(0, 0), 2);
        due("cards", x.card(3, 23), 1);
    }

    /** "ask: BAD: also the first no GENTLEMAN, the second no LADY"; "why: BAD likewise" */
    private static void badSides() {
        DanceCards x = Due.ball(2, 2);
        int[][] wrong = {{0, 1}, {0, 2}, {1, 3}, {0, 0}, {2, 2}, {2, 3}, {3, 2}};
        for (int[] pair : wrong) {
            due("ask " + pair[0] + " " + pair[1], x.ask(pair[0], pair[1], 3), BAD);
            due("why " + pair[0] + " " + pair[1], x.why(pair[0], pair[1], 3), BAD);
        }
        due("couples", x.count(2), 0);
    }

    /** "the first that fits": BAD ahead of every WHY */
    private static void badAheadOfWhy() {
        DanceCards x = Due.ball(1, 1);
        x.ill(0);
        x.ill(1);
        x.feud(0, 1, true);
        due("ask for 24", x.ask(1, 0, 24), BAD);
        due("why for -1", x.why(1, 0, -1), BAD);
        due("ask the other way round", x.ask(0, 1, 0), BAD);
        due("why the other way round", x.why(0, 1, 0), BAD);
        due("ask right", x.ask(1, 0, 23), -10 - ILL);
        due("why right", x.why(1, 0, 0), ILL);
    }

    /** A ball that is full of couples: eight in every dance, and nobody can be asked any more */
    private static void everyDanceIsFull() {
        DanceCards x = Due.ball(8, 8);
        for (int d = 0; d < 24; d++) {
            for (int l = 0; l < 8; l++) due("ask", x.ask(8 + (l + d) % 8, l, d), 1);
        }
        due("couples", x.count(2), 192);
        for (int d = 0; d < 24; d++) due("taken", x.ask(15, 7, d), -10 - TAKEN);
        due("none more", x.could(23), 0);
        due("with how many", x.about(15, 1), 8);
    }

    public static void main(String[] args) {
        firstReasonThatFits();
        ill();
        strangers();
        feud();
        ranks();
        taken();
        pairs();
        rowsThatGrow();
        rowsThatJoin();
        rowsDoNotGoRound();
        rowsAreOfOneAlone();
        sittingIsNoRow();
        suppers();
        whatIsNotTold();
        couplesStay();
        badNumbers();
        badSides();
        badAheadOfWhy();
        everyDanceIsFull();
        Due.finish();
    }
}
