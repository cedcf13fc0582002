/** Promises 13 to 18 and 21 at their edges. Each method tests the sentence of the document that stands above it. */
public final class AskingEdgeTest {
    private static final int BAD = DanceCards.BAD, STATE = DanceCards.STATE, NONE = DanceCards.NONE, SITS = -5;

    private static void due(String call, long got, long want) {
        Due.due(call, got, want);
    }

    private static void dueCards(String what, DanceCards x, int d, int... wanted) {
        Due.dueRow(what + ": card in " + d, p -> x.card(p, d), wanted);
    }

    /** "refuse: BAD likewise": people, dances, the first no lady, the second no gentleman */
    private static void refuseIsBad() {
        DanceCards x = Due.ball(2, 2);
        Due.dueBadOutside("refuse: lady", 0, 3, p -> x.refuse(p, 2, 0));
        Due.dueBadOutside("refuse: gentleman", 0, 3, p -> x.refuse(0, p, 0));
        Due.dueBadOutside("refuse: dance", 0, 23, d -> x.refuse(0, 2, d));
        int[][] wrong = {{2, 0}, {3, 1}, {0, 1}, {2, 3}, {0, 0}, {3, 3}};
        for (int[] pair : wrong) due("refuse " + pair[0] + " " + pair[1], x.refuse(pair[0], pair[1], 0), BAD);
        x.ill(0);
        due("ahead of WHY", x.refuse(0, 2, 24), BAD);
        due("nobody sits", x.about(0, 3) + x.about(1, 3) + x.about(2, 3) + x.about(3, 3), 0);
    }

    /** "refuse: she SITS in that DANCE: 1", in the first dance and in the last, in all of them */
    private static void refuseCostsTheDance() {
        DanceCards x = Due.ball(2, 2);
        for (int d = 0; d < 24; d++) {
            due("refuse in " + d, x.refuse(1, 3, d), 1);
            dueCards("she sits, he does not", x, d, NONE, SITS, NONE, NONE);
            due("sits", x.about(1, 3), d + 1);
        }
        due("others can", x.ask(3, 0, 0), 1);
        due("couples", x.count(2), 1);
        due("dances of hers", x.about(1, 0) + x.about(1, 1) + x.about(1, 2), 0);
    }

    /** "refuse: -10 less WHY, if he could not": one who sits already, one who is of a couple, one whom she does not know */
    private static void refuseOneWhoCouldNot() {
        DanceCards x = Due.ball(2, 2);
        x.person(false, 0);
        x.refuse(0, 2, 5);
        due("who sits", x.refuse(0, 2, 5), -15);
        due("who sits, another", x.refuse(0, 3, 5), -15);
        x.ask(2, 1, 5);
        due("her own partner", x.refuse(1, 2, 5), -15);
        due("another, while she is of a couple", x.refuse(1, 3, 5), -15);
        due("one who is of a couple", x.refuse(0, 2, 5), -15);
        due("a stranger", x.refuse(0, 4, 6), -12);
        dueCards("nothing changed", x, 5, SITS, 2, 1, NONE, NONE);
        dueCards("nothing changed", x, 6, NONE, NONE, NONE, NONE, NONE);
    }

    /** "part: BAD likewise" */
    private static void partIsBad() {
        DanceCards x = Due.ball(2, 2);
        x.ask(2, 0, 0);
        x.ask(2, 0, 23);
        Due.dueBadOutside("part: gentleman", 0, 3, p -> x.part(p, 0, 0));
        Due.dueBadOutside("part: lady", 0, 3, p -> x.part(2, p, 0));
        Due.dueBadOutside("part: dance", 0, 23, d -> x.part(2, 0, d));
        int[][] wrong = {{0, 2}, {1, 3}, {0, 1}, {2, 3}, {0, 0}, {2, 2}};
        for (int[] pair : wrong) due("part " + pair[0] + " " + pair[1], x.part(pair[0], pair[1], 0), BAD);
        due("couples", x.count(2), 2);
        due("the first dance", x.part(2, 0, 0), 1);
        due("the last dance", x.part(2, 0, 23), 1);
        due("couples", x.count(2), 0);
    }

    /** "part: STATE: they are none there" */
    private static void partThoseWhoAreNone() {
        DanceCards x = Due.ball(3, 3);
        x.ask(3, 0, 7);
        x.ask(4, 1, 7);
        x.refuse(2, 5, 7);
        due("nobody in a dance", x.part(3, 0, 8), STATE);
        due("he with another", x.part(3, 2, 6), STATE);
        due("each with another", x.part(3, 1, 7), STATE);
        due("each with another", x.part(4, 0, 7), STATE);
        due("he is free", x.part(5, 0, 7), STATE);
        due("she sits", x.part(5, 2, 7), STATE);
        due("she sits, he is of a couple", x.part(3, 2, 7), STATE);
        dueCards("nothing changed", x, 7, 3, 4, SITS, 0, 1, NONE);
        due("part", x.part(3, 0, 7), 1);
        due("again", x.part(3, 0, 7), STATE);
        dueCards("the others stay", x, 7, NONE, 4, SITS, NONE, 1, NONE);
    }

    /** "swap: BAD: also no GENTLEMEN, one and the same" */
    private static void swapIsBad() {
        DanceCards x = Due.ball(2, 2);
        x.ask(2, 0, 0);
        x.ask(3, 1, 0);
        Due.dueBadOutside("swap: first", 0, 3, p -> x.swap(p, 3, 0));
        Due.dueBadOutside("swap: second", 0, 3, p -> x.swap(2, p, 0));
        Due.dueBadOutside("swap: dance", 0, 23, d -> x.swap(2, 3, d));
        int[][] wrong = {{0, 2}, {2, 0}, {2, 1}, {0, 1}, {0, 0}, {2, 2}, {3, 3}};
        for (int[] pair : wrong) due("swap " + pair[0] + " " + pair[1], x.swap(pair[0], pair[1], 0), BAD);
        due("one and the same who is of no couple", x.swap(2, 2, 5), BAD);
        due("a lady, and he is of no couple", x.swap(2, 0, 5), BAD);
        dueCards("nothing changed", x, 0, 2, 3, 0, 1);
    }

    /** "swap: STATE: one is of no COUPLE there": the first, the second, both */
    private static void swapOneOfNoCouple() {
        DanceCards x = Due.ball(2, 3);
        x.ask(2, 0, 23);
        due("the second", x.swap(2, 3, 23), STATE);
        due("the first", x.swap(3, 2, 23), STATE);
        due("both", x.swap(3, 4, 23), STATE);
        x.refuse(1, 3, 23);
        due("his lady sits", x.swap(2, 3, 23), STATE);
        x.ask(3, 1, 22);
        due("in another dance", x.swap(2, 3, 22), STATE);
        x.feud(2, 1, true);
        due("ahead of WHY", x.swap(2, 3, 23), STATE);
        dueCards("nothing changed", x, 23, 2, SITS, 0, NONE, NONE);
    }

    /** "swap: Two GENTLEMEN change their LADIES in a DANCE: 1": and in no other; and back; the first dance, the last */
    private static void swapThere() {
        for (int d : new int[] {0, 11, 23}) {
            DanceCards x = Due.ball(3, 3);
            for (int e = 0; e < 24; e++) for (int i = 0; i < 3; i++) x.ask(3 + i, i, e);
            due("swap", x.swap(3, 5, d), 1);
            dueCards("swapped", x, d, 5, 4, 3, 2, 1, 0);
            for (int e = 0; e < 24; e++) if (e != d) dueCards("another dance", x, e, 3, 4, 5);
            due("couples", x.count(2), 72);
            due("and back", x.swap(3, 5, d), 1);
            dueCards("as it was", x, d, 3, 4, 5, 0, 1, 2);
        }
    }

    /** Ladies 0, 1 and gentlemen 2, 3 of ranks 0, 5, 0, 5, two couples in dance 4: 2 with 0, 3 with 1. */
    private static DanceCards twoCouples(boolean known02, boolean known13) {
        DanceCards x = new DanceCards();
        x.person(true, 0);
        x.person(true, 5);
        x.person(false, 0);
        x.person(false, 5);
        x.introduce(NONE, 0, 2);
        x.introduce(NONE, 1, 3);
        if (known02) x.introduce(NONE, 2, 1);
        if (known13) x.introduce(NONE, 3, 0);
        x.ask(2, 0, 4);
        x.ask(3, 1, 4);
        return x;
    }

    private static void dueSwap(String what, DanceCards x, int g, int h, int wanted) {
        due("swap, " + what, x.swap(g, h, 4), wanted);
        if (wanted == 1) dueCards(what, x, 4, 3, 2, 1, 0);
        else dueCards(what, x, 4, 2, 3, 0, 1);
    }

    /** "swap: -10 less WHY: of the first one with the second one's LADY, else of the second one with the first one's" */
    private static void swapThatCanNot() {
        dueSwap("all can", twoCouples(true, true), 2, 3, 1);
        dueSwap("strangers: the first", twoCouples(false, true), 2, 3, -12);
        dueSwap("strangers: the second", twoCouples(true, false), 2, 3, -12);
        DanceCards x = twoCouples(true, true);
        x.feud(3, 0, true);
        dueSwap("feud: the second", x, 2, 3, -13);
        Due.tell(x, "rank 4;");
        dueSwap("rank of the first ahead of the feud of the second", x, 2, 3, -14);
        dueSwap("the other way round", x, 3, 2, -13);
        Due.tell(x, "rank 5;");
        dueSwap("rank just so", x, 2, 3, -13);
        x.feud(3, 0, false);
        Due.tell(x, "supper 4;");
        dueSwap("supper", x, 2, 3, -18);
        x.ask(2, 1, 9);
        dueSwap("supper of the second", x, 2, 3, -18);
        x.ask(3, 0, 10);
        dueSwap("supper of none", x, 2, 3, 1);
        DanceCards y = twoCouples(false, true);
        y.feud(3, 0, true);
        dueSwap("strangers first", y, 2, 3, -12);
        dueSwap("feud first", y, 3, 2, -13);
    }

    /** "swap: .. both COUPLES being no more": none of them is TAKEN, and a pair that was one too many is not */
    private static void swapCountsWithoutThem() {
        DanceCards x = twoCouples(true, true);
        Due.tell(x, "row 1;");
        dueSwap("a row of one", x, 2, 3, 1);
        DanceCards y = twoCouples(true, true);
        y.ask(2, 1, 3);
        Due.tell(y, "row 2;");
        dueSwap("row just so", y, 2, 3, 1);
        DanceCards z = twoCouples(true, true);
        z.ask(2, 1, 3);
        Due.tell(z, "row 1;");
        dueSwap("row: of the gentleman", z, 2, 3, -17);
        DanceCards w = twoCouples(true, true);
        w.ask(2, 1, 8);
        Due.tell(w, "pair 1;");
        dueSwap("pair: the first", w, 2, 3, -16);
        dueSwap("pair: the second", w, 3, 2, -16);
        Due.tell(w, "pair 2;");
        dueSwap("pair just so", w, 2, 3, 1);
        DanceCards v = twoCouples(true, true);
        Due.tell(v, "supper 4;");
        dueSwap("supper: in another dance, not in this", v, 2, 3, -18);
    }

    /** "card: BAD" */
    private static void cardIsBad() {
        DanceCards x = Due.ball(1, 2);
        x.ask(2, 0, 0);
        x.ask(2, 0, 23);
        Due.dueBadOutside("card: person", 0, 2, p -> x.card(p, 0));
        Due.dueBadOutside("card: dance", 0, 23, d -> x.card(0, d));
        dueCards("the first dance", x, 0, 2, NONE, 0);
        dueCards("the last dance", x, 23, 2, NONE, 0);
        dueCards("another", x, 12, NONE, NONE, NONE);
        DanceCards y = Due.ball(8, 8);
        y.ask(15, 7, 23);
        due("the last one's card", y.card(15, 23), 7);
        due("the last lady's card", y.card(7, 23), 15);
        Due.dueBadOutside("card: person", 0, 15, p -> y.card(p, 23));
    }

    /** "ill: how many COUPLES are no more by that (SITS stay)": none, one, all 24 */
    private static void illParts() {
        DanceCards x = Due.ball(2, 2);
        for (int d = 0; d < 24; d++) x.ask(2, 0, d);
        x.ask(3, 1, 0);
        x.refuse(1, 3, 23);
        due("who has 24", x.ill(2), 24);
        due("her partner has none left", x.about(0, 0) + x.about(2, 0), 0);
        dueCards("the others stay", x, 0, NONE, 3, NONE, 1);
        due("who sits and has one", x.ill(1), 1);
        due("she sits still", x.card(1, 23), SITS);
        due("sits", x.about(1, 3), 1);
        due("who has none", x.ill(0), 0);
        due("who had one", x.ill(3), 0);
        due("ill ones", x.count(4), 4);
        due("couples", x.count(2), 0);
    }

    /** "ill: BAD; STATE: it is so already" */
    private static void illIsRefused() {
        DanceCards x = Due.ball(1, 2);
        Due.dueBadOutside("ill", 0, 2, x::ill);
        due("none is ill", x.count(4), 0);
        due("the last one", x.ill(2), 0);
        due("already", x.ill(2), STATE);
        due("one", x.count(4), 1);
        due("another", x.ill(0), 0);
        DanceCards y = Due.ball(8, 8);
        for (int p = 0; p < 16; p++) due("all", y.ill(p), 0);
        for (int p = 0; p < 16; p++) due("all already", y.ill(p), STATE);
        due("all are ill", y.count(4), 16);
    }

    /** "well: BAD; STATE: one is not" */
    private static void wellIsRefused() {
        DanceCards x = Due.ball(1, 2);
        Due.dueBadOutside("well", 0, 2, x::well);
        due("never ill", x.well(2), STATE);
        x.ill(1);
        due("another is", x.well(2), STATE);
        due("well", x.well(1), 1);
        due("no more", x.well(1), STATE);
        due("ill again", x.ill(1), 0);
        due("well again", x.well(1), 1);
        due("none is ill", x.count(4), 0);
    }

    /** "well: One is ILL no more": couples do not come back, SITS are still there */
    private static void wellBringsNothingBack() {
        DanceCards x = Due.ball(1, 1);
        x.ask(1, 0, 0);
        x.refuse(0, 1, 1);
        x.ill(0);
        x.well(0);
        due("no couple", x.card(0, 0), NONE);
        due("she sits", x.card(0, 1), SITS);
        due("he may ask her", x.ask(1, 0, 0), 1);
        due("but not where she sits", x.ask(1, 0, 1), -15);
    }

    /** "about: BAD": people, and what is not 0 to 3 */
    private static void aboutIsBad() {
        DanceCards x = Due.ball(1, 2);
        for (int what = 0; what < 4; what++) {
            int asked = what;
            Due.dueBadOutside("about: person, " + what, 0, 2, p -> x.about(p, asked));
            due("of the last one", x.about(2, what), 0);
        }
        Due.dueBadOutside("about: what", 0, 3, w -> x.about(0, w));
    }

    /** "about: 0 in how many DANCES of a COUPLE, 1 with how many others": none, one, all */
    private static void aboutHowMany() {
        DanceCards x = Due.ball(1, 15);
        for (int d = 0; d < 24; d++) {
            due("dances ahead of " + d, x.about(0, 0), d);
            due("others ahead of " + d, x.about(0, 1), Math.min(d, 15));
            x.ask(1 + d % 15, 0, d);
        }
        due("all dances", x.about(0, 0), 24);
        due("all others", x.about(0, 1), 15);
        due("his dances", x.about(1, 0), 2);
        due("his others", x.about(1, 1), 1);
        due("the last one's", x.about(15, 0) + x.about(15, 1), 2);
        x.part(1, 0, 0);
        due("one less, and still he is one", x.about(0, 1), 15);
        x.part(1, 0, 15);
        due("he is none any more", x.about(0, 1), 14);
    }

    /** "about: 2 the most DANCES next to one another": none, at the ends, all; the last and the first are not next */
    private static void aboutRows() {
        DanceCards x = Due.ball(1, 1);
        due("none", x.about(0, 2), 0);
        x.ask(1, 0, 23);
        due("the last", x.about(0, 2), 1);
        x.ask(1, 0, 0);
        due("the last and the first", x.about(0, 2), 1);
        x.ask(1, 0, 22);
        due("the last two", x.about(1, 2), 2);
        x.ask(1, 0, 1);
        x.ask(1, 0, 2);
        due("the first three", x.about(1, 2), 3);
        x.refuse(0, 1, 3);
        x.ask(1, 0, 4);
        due("sitting parts a row", x.about(0, 2), 3);
        for (int d = 5; d < 22; d++) x.ask(1, 0, d);
        due("all but four", x.about(0, 2), 20);
        DanceCards y = Due.ball(2, 2);
        for (int d = 0; d < 24; d++) y.ask(2 + d % 2, 0, d);
        due("with whomever", y.about(0, 2), 24);
        due("every second one", y.about(2, 2), 1);
    }

    /** "about: 3 in how many one SITS": none, all; and what stands on one's card is not on another's */
    private static void aboutIsOfOneAlone() {
        for (int p = 0; p < 16; p++) {
            DanceCards x = new DanceCards();
            for (int q = 0; q < 16; q++) x.person(q == p, 0);
            int g = (p + 8) % 16;
            x.introduce(NONE, p, g);
            for (int d = 0; d < 24; d++) due("refuse", x.refuse(p, g, d), 1);
            for (int q = 0; q < 16; q++) {
                due("sits of " + q, x.about(q, 3), q == p ? 24 : 0);
                due("dances of " + q, x.about(q, 0) + x.about(q, 1) + x.about(q, 2), 0);
            }
            DanceCards y = new DanceCards();
            for (int q = 0; q < 16; q++) y.person(q == p, 0);
            y.introduce(NONE, p, g);
            for (int d = 0; d < 24; d++) due("ask", y.ask(g, p, d), 1);
            for (int q = 0; q < 16; q++) {
                int all = q == p || q == g ? 24 : 0;
                due("dances of " + q, y.about(q, 0), all);
                due("others of " + q, y.about(q, 1), all / 24);
                due("row of " + q, y.about(q, 2), all);
                due("sits of " + q, y.about(q, 3), 0);
            }
        }
    }

    public static void main(String[] args) {
        refuseIsBad();
        refuseCostsTheDance();
        refuseOneWhoCouldNot();
        partIsBad();
        partThoseWhoAreNone();
        swapIsBad();
        swapOneOfNoCouple();
        swapThere();
        swapThatCanNot();
        swapCountsWithoutThem();
        cardIsBad();
        illParts();
        illIsRefused();
        wellIsRefused();
        wellBringsNothingBack();
        aboutIsBad();
        aboutHowMany();
        aboutRows();
        aboutIsOfOneAlone();
        Due.finish();
    }
}
