/** One method for each promise of the document: ordinary inputs, the edges, wrong inputs. */
public final class PromiseTest {
    private static final int BAD = DanceCards.BAD, STATE = DanceCards.STATE;
    private static final int FULL = DanceCards.FULL, NONE = DanceCards.NONE, SITS = -5;
    private static final int LOW = Integer.MIN_VALUE, HIGH = Integer.MAX_VALUE;

    private static void due(String call, long got, long want) {
        Due.due(call, got, want);
    }

    private static void dueCustoms(DanceCards x, String text, int answer, int fault) {
        due("customs '" + text + "'", Due.tell(x, text), answer);
        due("fault of '" + text + "'", x.fault(), fault);
        due("the tape behind '" + text + "'", x.count(7), 0);
    }

    private static void dueCards(String what, DanceCards x, int d, int... wanted) {
        for (int p = 0; p < wanted.length; p++) due(what + ": card(" + p + ", " + d + ")", x.card(p, d), wanted[p]);
    }

    private static void dueLaid(String what, DanceCards x, int p, int... wanted) {
        for (int d = 0; d < wanted.length; d++) due(what + ": laid(" + p + ", " + d + ")", x.laid(p, d), wanted[d]);
    }

    private static void dueSets(String what, DanceCards x, int d, int number, int... wanted) {
        due(what + ": sets", x.sets(d), number);
        for (int p = 0; p < wanted.length; p++) due(what + ": set(" + p + ", " + d + ")", x.set(p, d), wanted[p]);
    }

    private static void p01NewObject() {
        DanceCards x = new DanceCards();
        for (int what = 0; what <= 7; what++) due("new: count " + what, x.count(what), what == 6 ? NONE : 0);
        for (int k = 0; k < 4; k++) {
            due("new: custom", x.custom(k), NONE);
            due("new: lay", x.lay(k, 0, 0), -11);
            due("new: scan", x.scan(k, 0, 0, 0), -21);
        }
        due("new: fault", x.fault(), 0);
        due("new: fewest", x.fewest(), 0);
        due("new: could", x.could(0), 0);
        due("new: fill", x.fill(23), 0);
        due("new: sets", x.sets(0), 0);
        due("new: card", x.card(0, 0), BAD);
    }

    private static void p02Person() {
        DanceCards x = new DanceCards();
        due("rank -1", x.person(true, -1), BAD);
        due("rank 10", x.person(false, 10), BAD);
        due("rank lowest", x.person(false, LOW), BAD);
        for (int i = 0; i < 16; i++) due("person " + i, x.person(i % 3 == 0, i % 2 == 0 ? 0 : 9), i);
        due("the 17th", x.person(true, 0), FULL);
        due("the 17th with a wrong rank", x.person(true, 10), BAD);
        due("people", x.count(0), 16);
        due("ladies", x.count(1), 6);
    }

    private static void p03Introduce() {
        DanceCards x = new DanceCards();
        for (int i = 0; i < 5; i++) x.person(i < 2, i);
        due("by one who knows none", x.introduce(2, 0, 1), STATE);
        due("by nobody", x.introduce(NONE, 2, 0), 1);
        due("by one who knows the first alone", x.introduce(2, 0, 1), STATE);
        due("by one who knows the second alone", x.introduce(2, 1, 0), STATE);
        x.introduce(NONE, 1, 2);
        due("by one who knows both", x.introduce(2, 1, 0), 1);
        due("known both ways", x.knows(0, 1) + x.knows(1, 0), 2);
        due("known already", x.introduce(2, 0, 1), STATE);
        due("known already, by nobody", x.introduce(NONE, 0, 1), STATE);
        due("two gentlemen", x.introduce(NONE, 3, 4), 1);
        due("one and the same", x.introduce(NONE, 3, 3), BAD);
        due("by the first", x.introduce(0, 0, 3), BAD);
        due("by the second", x.introduce(3, 0, 3), BAD);
        due("by no person", x.introduce(5, 0, 3), BAD);
        due("by -1", x.introduce(-1, 0, 3), BAD);
        due("by -5, known already", x.introduce(-5, 0, 1), BAD);
        due("no such a", x.introduce(NONE, 5, 0), BAD);
        due("no such b", x.introduce(NONE, 0, HIGH), BAD);
        due("a is NONE", x.introduce(NONE, NONE, 0), BAD);
        due("pairs", x.count(5), 4);
    }

    private static void p04Feud() {
        DanceCards x = Due.ball(2, 2);
        due("feud on", x.feud(0, 2, true), 0);
        due("feud on again", x.feud(2, 0, true), 1);
        due("feud stops it", x.why(2, 0, 0), 3);
        due("feud of others", x.why(3, 0, 0), 0);
        due("feud off", x.feud(0, 2, false), 1);
        due("feud off again", x.feud(2, 0, false), 0);
        due("no feud any more", x.why(2, 0, 0), 0);
        due("two ladies", x.feud(0, 1, true), 0);
        due("one and the same", x.feud(1, 1, true), BAD);
        due("no such a", x.feud(4, 1, true), BAD);
        due("no such b", x.feud(1, -1, false), BAD);
        due("they know one another still", x.knows(0, 2), 1);
    }

    private static void p05Knows() {
        DanceCards x = new DanceCards();
        for (int i = 0; i < 16; i++) x.person(true, 0);
        x.introduce(NONE, 15, 0);
        due("15, 0", x.knows(15, 0), 1);
        due("0, 15", x.knows(0, 15), 1);
        due("0, 14", x.knows(0, 14), 0);
        due("oneself", x.knows(0, 0), 0);
        due("16", x.knows(0, 16), BAD);
        due("-1", x.knows(-1, 0), BAD);
        due("lowest", x.knows(LOW, HIGH), BAD);
    }

    private static void p06Feed() {
        DanceCards x = new DanceCards();
        for (int i = 1; i <= 12; i++) due("feed", x.feed(0x2020202020202020L), 8 * i);
        due("96 and 8", x.feed(0), FULL);
        due("still 96", x.count(7), 96);
        x.end(93);
        due("93 and 8", x.feed(0), FULL);
        x.end(92);
        due("92 and 8", x.feed(Due.eight("pair 17;", 0)), 100);
        due("a text at the very end", x.customs(), 1);
        due("its number", x.custom(0), 17);
        due("the highest byte first", x.feed(Due.eight("  \u00ff     ", 0)), 8);
        due("a byte above 127", x.customs(), -12);
        due("the lowest byte last", x.feed(0x2020202020202000L), 8);
        due("a byte 0", x.customs(), -17);
    }

    private static void p07End() {
        DanceCards x = new DanceCards();
        due("end(0) of nothing", x.end(0), 0);
        due("end(1) of nothing", x.end(1), BAD);
        x.feed(Due.eight("row 3; x", 0));
        due("end(9) of 8", x.end(9), BAD);
        due("end(-1)", x.end(-1), BAD);
        due("end(lowest)", x.end(LOW), BAD);
        due("end(8) of 8", x.end(8), 8);
        due("end(6) of 8", x.end(6), 8);
        due("bytes", x.count(7), 6);
        due("what is left", x.customs(), 1);
        due("row", x.custom(2), 3);
    }

    private static void p08Customs() {
        DanceCards x = new DanceCards();
        dueCustoms(x, "pair 24;rank 9;row 24;supper 23;", 4, 0);
        dueCustoms(x, "pair1;rank0  ;   row001;supper\u0020000;   ", 4, 0);
        due("pair", x.custom(0), 1);
        due("row of three figures", x.custom(2), 1);
        dueCustoms(x, "rank 5;", 1, 0);
        due("pair is told no more", x.custom(0), NONE);
        dueCustoms(x, "row 5; pair 2; supper 24;", -32, 3);
        due("rank stays", x.custom(1), 5);
        due("row is not told", x.custom(2), NONE);
        due("one custom", x.count(3), 1);
        dueCustoms(x, "   ", 0, 0);
        due("none", x.count(3), 0);
        Due.type(x, "    ");
        Due.type(x, "                                                                               pair 3; row 3    ");
        due("100 bytes", x.count(7), 100);
        due("the end of 100 bytes", x.customs(), -110);
        due("its fault", x.fault(), 2);
    }

    private static void p09Fault() {
        DanceCards x = new DanceCards();
        dueCustoms(x, "Pair 1;", -10, 1);
        dueCustoms(x, "pairs 1;", -10, 1);
        dueCustoms(x, "pai 1;", -10, 1);
        dueCustoms(x, "pair 1; z", -18, 1);
        dueCustoms(x, "pair foe;", -15, 1);
        dueCustoms(x, "pair 0001;", -15, 1);
        dueCustoms(x, "  1234", -12, 1);
        dueCustoms(x, "pair 1, row 2;", -16, 1);
        dueCustoms(x, "pair\t1;", -14, 1);
        dueCustoms(x, "pair 1 2000;", -17, 1);
        dueCustoms(x, "pair pair 1;", -15, 2);
        dueCustoms(x, "pair 1 1;", -17, 2);
        dueCustoms(x, "pair 1 pair 1;", -17, 2);
        dueCustoms(x, "pair 1;;", -17, 2);
        dueCustoms(x, ";", -10, 2);
        dueCustoms(x, " 7", -11, 2);
        dueCustoms(x, "pair", -14, 2);
        dueCustoms(x, "pair   ", -17, 2);
        dueCustoms(x, "pair 3  ", -18, 2);
        dueCustoms(x, "pair 0", -15, 3);
        dueCustoms(x, "pair 25 x", -15, 3);
        dueCustoms(x, "rank 10;", -15, 3);
        dueCustoms(x, "row 0;", -14, 3);
        dueCustoms(x, "row  25;", -15, 3);
        dueCustoms(x, "supper 24;", -17, 3);
        dueCustoms(x, "supper 999;", -17, 3);
        dueCustoms(x, "row 1; row 99;", -17, 4);
        dueCustoms(x, "supper 0;rank 0;supper", -26, 4);
        dueCustoms(x, "pair 1;rank 1;row 1;supper 1; pair 1;", -40, 4);
        dueCustoms(x, "pair 1;", 1, 0);
    }

    private static void p10Custom() {
        DanceCards x = new DanceCards();
        Due.tell(x, "supper 0; row 7; pair 12; rank 0;");
        due("pair", x.custom(0), 12);
        due("rank", x.custom(1), 0);
        due("row", x.custom(2), 7);
        due("supper", x.custom(3), 0);
        due("4", x.custom(4), BAD);
        due("-1", x.custom(-1), BAD);
        due("lowest", x.custom(LOW), BAD);
        Due.tell(x, "row 2;");
        due("pair", x.custom(0), NONE);
        due("supper", x.custom(3), NONE);
    }

    private static void p11Ask() {
        DanceCards x = Due.ball(2, 2);
        due("first", x.ask(2, 0, 0), 1);
        due("card of the gentleman", x.card(2, 0), 0);
        due("card of the lady", x.card(0, 0), 2);
        due("lady taken", x.ask(3, 0, 0), -15);
        due("gentleman taken", x.ask(2, 1, 0), -15);
        due("last dance", x.ask(3, 1, 23), 1);
        due("dance 24", x.ask(2, 0, 24), BAD);
        due("dance -1", x.ask(2, 0, -1), BAD);
        due("a lady asks", x.ask(0, 1, 3), BAD);
        due("a gentleman is asked", x.ask(2, 3, 3), BAD);
        due("nobody asks", x.ask(4, 0, 3), BAD);
        due("nobody is asked", x.ask(2, NONE, 3), BAD);
        due("couples", x.count(2), 2);
    }

    private static void p12Why() {
        DanceCards x = new DanceCards();
        x.person(true, 1);
        x.person(false, 9);
        x.person(false, 1);
        x.introduce(NONE, 0, 2);
        x.ask(2, 0, 0);
        Due.tell(x, "pair 1;rank 7;row 1;supper 0;");
        x.feud(0, 1, true);
        x.ill(1);
        due("all at once: ill", x.why(1, 0, 0), 1);
        x.well(1);
        due("strangers", x.why(1, 0, 0), 2);
        x.introduce(NONE, 0, 1);
        due("feud", x.why(1, 0, 0), 3);
        x.feud(0, 1, false);
        due("rank", x.why(1, 0, 0), 4);
        Due.tell(x, "pair 1;rank 8;row 1;supper 1;");
        due("rank just so; taken", x.why(1, 0, 0), 5);
        due("row of the lady", x.why(1, 0, 1), 7);
        due("pair ahead of row", x.why(2, 0, 1), 6);
        Due.tell(x, "row 2;supper 1;");
        due("supper", x.why(1, 0, 1), 8);
        due("supper of those who are a couple", x.why(2, 0, 1), 0);
        due("not the supper", x.why(1, 0, 2), 0);
        x.ill(0);
        due("the lady is ill", x.why(2, 0, 9), 1);
        due("BAD", x.why(0, 2, 9), BAD);
        due("BAD dance", x.why(2, 0, 24), BAD);
        due("BAD person", x.why(HIGH, 0, 2), BAD);
        whyByRows();
    }

    private static void whyByRows() {
        DanceCards x = Due.ball(2, 2);
        for (int d = 0; d < 24; d++) if (d % 4 != 3) x.ask(2, 0, d);
        Due.tell(x, "row 6;");
        due("row of the gentleman", x.why(2, 1, 3), 7);
        due("row of the lady", x.why(3, 0, 3), 7);
        due("at the end", x.why(2, 0, 23), 0);
        due("of neither", x.why(3, 1, 3), 0);
        Due.tell(x, "row 7;");
        due("row just so", x.why(2, 1, 3), 0);
        Due.tell(x, "row 2; pair 1;");
        due("couples stay", x.count(2), 18);
        x.part(2, 0, 1);
        x.part(2, 0, 2);
        due("a longer row elsewhere", x.why(2, 1, 2), 0);
        Due.tell(x, "pair 16;");
        due("pair: one too many", x.why(2, 0, 1), 6);
        Due.tell(x, "pair 17;");
        due("pair just so", x.why(2, 0, 1), 0);
        Due.tell(x, "row 1;");
        x.refuse(1, 3, 8);
        due("sitting is no row", x.why(3, 1, 9), 0);
    }

    private static void p13Refuse() {
        DanceCards x = Due.ball(2, 2);
        due("refuse", x.refuse(0, 2, 5), 1);
        due("she sits", x.card(0, 5), SITS);
        due("he does not", x.card(2, 5), NONE);
        due("taken for others, too", x.ask(3, 0, 5), -15);
        due("he may ask another", x.ask(2, 1, 5), 1);
        due("again", x.refuse(0, 3, 5), -15);
        x.feud(0, 2, true);
        due("one who could not", x.refuse(0, 2, 6), -13);
        due("nothing changed", x.card(0, 6), NONE);
        due("the other way round", x.refuse(2, 0, 6), BAD);
        due("dance 24", x.refuse(0, 2, 24), BAD);
        due("nobody", x.refuse(0, 4, 6), BAD);
        due("sits", x.about(0, 3), 1);
    }

    private static void p14Part() {
        DanceCards x = Due.ball(2, 2);
        x.ask(2, 0, 5);
        x.refuse(1, 3, 5);
        due("no couple", x.part(3, 0, 5), STATE);
        due("of another dance", x.part(2, 0, 4), STATE);
        due("each with another", x.ask(3, 1, 9) + x.ask(2, 0, 9) + x.part(3, 0, 9), 2 + STATE);
        dueCards("nothing changed", x, 9, 2, 3, 0, 1);
        due("one who sits", x.part(3, 1, 5), STATE);
        due("part", x.part(2, 0, 5), 1);
        dueCards("parted", x, 5, NONE, SITS, NONE, NONE);
        due("again", x.part(2, 0, 5), STATE);
        due("the other way round", x.part(0, 2, 5), BAD);
        due("dance -1", x.part(2, 0, -1), BAD);
        due("nobody", x.part(2, 9, 5), BAD);
    }

    private static void p15Swap() {
        DanceCards x = Due.ball(3, 3);
        x.ask(3, 0, 2);
        x.ask(4, 1, 2);
        due("swap", x.swap(3, 4, 2), 1);
        dueCards("swapped", x, 2, 4, 3, NONE, 1, 0, NONE);
        due("one alone", x.swap(3, 5, 2), STATE);
        due("the other alone", x.swap(5, 3, 2), STATE);
        due("one and the same", x.swap(3, 3, 2), BAD);
        due("a lady", x.swap(3, 0, 2), BAD);
        due("dance 24", x.swap(3, 4, 24), BAD);
        due("nobody", x.swap(3, 6, 2), BAD);
        x.feud(4, 1, true);
        due("the second one can not", x.swap(3, 4, 2), -13);
        due("the first one can not", x.swap(4, 3, 2), -13);
        Due.tell(x, "supper 2;");
        due("the first one's reason first", x.swap(3, 4, 2), -18);
        dueCards("nothing changed", x, 2, 4, 3, NONE, 1, 0, NONE);
        x.ask(3, 0, 9);
        due("now the second one's", x.swap(3, 4, 2), -13);
        x.feud(4, 1, false);
        x.ask(4, 1, 10);
        due("those who are couples elsewhere", x.swap(3, 4, 2), 1);
        Due.tell(x, "pair 1;");
        due("pair counts what stays", x.swap(3, 4, 2), 1);
        due("and back", x.swap(3, 4, 2), -16);
        dueCards("nothing changed again", x, 2, 4, 3, NONE, 1, 0, NONE);
        Due.tell(x, "row 1;");
        x.ask(5, 2, 1);
        due("a row of one", x.swap(3, 4, 2), 1);
    }

    private static void p16Card() {
        DanceCards x = Due.ball(1, 1);
        x.ask(1, 0, 0);
        x.refuse(0, 1, 23);
        due("lady", x.card(0, 0), 1);
        due("gentleman", x.card(1, 0), 0);
        due("sits", x.card(0, 23), SITS);
        due("nobody", x.card(1, 23), NONE);
        due("dance 24", x.card(0, 24), BAD);
        due("dance -1", x.card(1, -1), BAD);
        due("person 2", x.card(2, 0), BAD);
        due("person -1", x.card(-1, 5), BAD);
    }

    private static void p17Ill() {
        DanceCards x = Due.ball(2, 2);
        x.ask(2, 0, 0);
        x.ask(3, 0, 1);
        x.ask(2, 1, 1);
        x.refuse(0, 2, 2);
        due("the lady", x.ill(0), 2);
        dueCards("dance 0", x, 0, NONE, NONE, NONE, NONE);
        dueCards("dance 1", x, 1, NONE, 2, 1, NONE);
        due("she sits still", x.card(0, 2), SITS);
        due("again", x.ill(0), STATE);
        due("one without couples", x.ill(3), 0);
        due("nobody", x.ill(4), BAD);
        due("-1", x.ill(-1), BAD);
        due("ill ones", x.count(4), 2);
        due("could", x.could(0), 1);
    }

    private static void p18Well() {
        DanceCards x = Due.ball(1, 1);
        x.ask(1, 0, 0);
        due("who is not ill", x.well(0), STATE);
        x.ill(0);
        due("well", x.well(0), 1);
        due("again", x.well(0), STATE);
        due("couples do not come back", x.card(0, 0), NONE);
        due("she can dance", x.ask(1, 0, 0), 1);
        due("nobody", x.well(2), BAD);
        due("-1", x.well(-1), BAD);
    }

    private static void p19Could() {
        DanceCards x = Due.ball(8, 8);
        due("eight", x.could(0), 8);
        x.ask(8, 0, 0);
        x.refuse(1, 9, 0);
        due("those taken", x.could(0), 6);
        due("another dance", x.could(23), 8);
        due("nobody came", x.count(2), 1);
        due("24", x.could(24), BAD);
        due("-1", x.could(-1), BAD);
        DanceCards y = Due.ball(3, 3);
        for (int l = 0; l < 3; l++) y.feud(l, 5, true);
        y.feud(0, 4, true);
        y.feud(1, 4, true);
        due("two want one", y.could(0), 2);
        Due.tell(y, "supper 7;");
        due("supper", y.could(7), 0);
        due("fewer gentlemen", Due.ball(15, 1).could(3), 1);
        due("no gentlemen", Due.ball(16, 0).could(3), 0);
    }

    private static void p20Fill() {
        DanceCards x = Due.ball(3, 3);
        x.feud(0, 3, true);
        x.feud(2, 4, true);
        x.feud(2, 5, true);
        due("one way alone for her", x.fill(0), 3);
        dueCards("a long chain", x, 0, 4, 5, 3, 2, 0, 1);
        due("again", x.fill(0), 0);
        due("24", x.fill(24), BAD);
        due("-1", x.fill(-1), BAD);
        DanceCards y = Due.ball(3, 2);
        due("fewer gentlemen", y.fill(1), 2);
        dueCards("the least ladies get them", y, 1, 3, 4, NONE, 0, 1);
        y.feud(0, 3, true);
        y.feud(0, 4, true);
        due("one who can not", y.fill(2), 2);
        dueCards("the others get them", y, 2, NONE, 3, 4, 1, 2);
        y.refuse(1, 3, 3);
        due("one who sits", y.fill(3), 1);
        dueCards("the last one", y, 3, NONE, SITS, 3, 2, NONE);
        DanceCards z = Due.ball(2, 3);
        z.ask(2, 1, 0);
        due("beside those there are", z.fill(0), 1);
        dueCards("the least one left", z, 0, 3, 2, 1, 0, NONE);
    }

    private static void p21About() {
        DanceCards x = Due.ball(3, 2);
        int[] dances = {0, 1, 3, 4, 5, 7, 22, 23};
        for (int d : dances) x.ask(3, d % 2, d);
        x.refuse(2, 3, 2);
        x.refuse(2, 3, 6);
        due("0", x.about(3, 0), 8);
        due("1", x.about(3, 1), 2);
        due("2", x.about(3, 2), 3);
        due("3", x.about(3, 3), 0);
        due("her 0", x.about(2, 0), 0);
        due("her 1", x.about(2, 1), 0);
        due("her 2", x.about(2, 2), 0);
        due("her 3", x.about(2, 3), 2);
        due("4", x.about(3, 4), BAD);
        due("-1", x.about(3, -1), BAD);
        due("nobody", x.about(5, 0), BAD);
        due("no one at all", x.about(-1, 3), BAD);
        DanceCards y = Due.ball(1, 1);
        for (int d = 0; d < 24; d++) y.ask(1, 0, d);
        due("all in a row", y.about(0, 2), 24);
        due("all", y.about(1, 0), 24);
    }

    private static void p22Sheet() {
        DanceCards x = new DanceCards();
        due("60 cells", x.sheet(0, 0, 60), 1);
        due("cells", x.count(6), 60);
        due("61", x.sheet(0, 0, 61), BAD);
        due("highest", x.sheet(0, 0, HIGH), BAD);
        due("-1", x.sheet(0, 0, -1), -14);
        due("lowest", x.sheet(0, 2, LOW), -14);
        due("cells still", x.count(6), 60);
        due("sheet 4", x.sheet(4, 0, 1), BAD);
        due("sheet -1 with -1 cells", x.sheet(-1, 0, -1), BAD);
        due("lane 3 with -1 cells", x.sheet(0, 3, -1), BAD);
        due("lane -1", x.sheet(0, -1, 1), BAD);
        due("no cells", x.sheet(0, 1, 0), 1);
        due("none", x.count(6), 0);
        due("the others stay nothing", x.lay(3, 0, 0), -11);
        DanceCards y = Due.ball(1, 2);
        y.sheet(3, 2, 3);
        y.lay(3, 0, 1);
        due("before", y.scan(3, 2, 0, 1), 1);
        y.sheet(3, 2, 3);
        due("a new row has cells 0", y.scan(3, 2, 0, 1), -30);
    }

    private static void p23Lay() {
        DanceCards x = Due.ball(1, 1);
        due("nothing", x.lay(0, 0, 1), -11);
        due("nothing, and no such cell", x.lay(0, -1, 1), -11);
        due("sheet 4", x.lay(4, 0, 1), BAD);
        due("sheet -1", x.lay(-1, 0, 1), BAD);
        x.sheet(0, 0, 3);
        due("cell 3 of 3", x.lay(0, 3, 1), -12);
        due("cell -1", x.lay(0, -1, 1), -12);
        due("cell highest", x.lay(0, HIGH, 1), -12);
        due("cell lowest", x.lay(0, LOW, 1), -12);
        due("the lowest 8 bits", x.lay(0, 0, 0x7fffff01) + x.lay(0, 1, 256) + x.lay(0, 2, -256 + 23), 3);
        due("of bytes", x.scan(0, 0, 0, 1), 1);
        due("dance 23", x.card(1, 23), 0);
        x.sheet(1, 1, 3);
        due("the lowest 16 bits", x.lay(1, 0, 65537) + x.lay(1, 1, -65536) + x.lay(1, 2, 65536 + 22), 3);
        due("of shorts", x.scan(1, 1, 0, 1), 1);
        x.lay(1, 2, 256);
        due("more than a byte", x.scan(1, 1, 0, 1), -30);
        x.sheet(2, 2, 3);
        x.lay(2, 0, 1);
        x.lay(2, 2, 65536);
        due("more than a short", x.scan(2, 2, 0, 1), -30);
        x.sheet(3, 1, 0);
        due("no cells", x.lay(3, 0, 1), -12);
    }

    private static void p24Scan() {
        DanceCards x = Due.ball(2, 2);
        due("nothing, another lane", x.scan(0, 1, 0, 1), -21);
        x.sheet(0, 2, 60);
        int[] cells = {9, 2, 0, 5, 3, 1, 5, 2, 0, 6, 2, 3, 7, 2, 1, 6};
        for (int i = 0; i < cells.length; i++) x.lay(0, i, cells[i]);
        due("two", x.scan(0, 2, 1, 2), 2);
        dueCards("two", x, 5, 2, 3, 0, 1);
        x.part(2, 0, 5);
        due("the second can not", x.scan(0, 2, 1, 2), -35);
        due("the first did not come", x.card(2, 5), NONE);
        due("the fourth is BAD", x.scan(0, 2, 7, 2), -30);
        due("none of them came", x.card(0, 6), NONE);
        due("the couple that was there stays", x.card(1, 5), 3);
        due("one spoils another", x.scan(0, 2, 13, 1), 1);
        due("by one of the same sheet", x.scan(0, 2, 7, 1), -35);
        due("none", x.scan(0, 2, -7, 0), 0);
        due("none of another lane", x.scan(0, 1, 0, 0), -23);
        due("from -1", x.scan(0, 2, -1, 1), -22);
        due("from 58", x.scan(0, 2, 58, 1), -22);
        due("from the highest", x.scan(0, 2, HIGH, 20), -22);
        due("from the lowest", x.scan(0, 2, LOW, 20), -22);
        due("21", x.scan(0, 2, 0, 21), BAD);
        due("-1", x.scan(0, 2, 0, -1), BAD);
        due("lane 3", x.scan(0, 3, 0, 1), BAD);
        due("lane -1", x.scan(1, -1, 0, 1), BAD);
        due("sheet 4", x.scan(4, 0, 0, 1), BAD);
        due("sheet -1", x.scan(-1, 0, 0, 1), BAD);
        scanToTheEnd();
    }

    private static void scanToTheEnd() {
        DanceCards x = Due.ball(1, 1);
        x.sheet(3, 0, 60);
        for (int i = 0; i < 20; i++) {
            x.lay(3, 3 * i, 1);
            x.lay(3, 3 * i + 2, i);
        }
        due("one is missing a cell: the first met", x.scan(3, 0, 3, 20), -22);
        due("none came", x.count(2), 0);
        due("twenty", x.scan(3, 0, 0, 20), 20);
        due("came", x.about(0, 2), 20);
        Due.tell(x, "pair 20;");
        x.lay(3, 2, 23);
        due("a custom", x.scan(3, 0, 0, 1), -36);
        x.ill(0);
        due("ill", x.scan(3, 0, 0, 20), -31);
    }

    private static void p25Wish() {
        DanceCards x = Due.ball(2, 2);
        due("first", x.wish(0, 2, 4), 0);
        due("then", x.wish(0, 2, 0), 4);
        due("then", x.wish(0, 2, 3), 0);
        due("of others", x.wish(0, 3, 1), 0);
        due("5", x.wish(0, 2, 5), BAD);
        due("-1", x.wish(0, 2, -1), BAD);
        due("the other way round", x.wish(2, 0, 1), BAD);
        due("two ladies", x.wish(0, 1, 1), BAD);
        due("two gentlemen", x.wish(2, 3, 1), BAD);
        due("nobody", x.wish(0, 4, 1), BAD);
        due("nobody", x.wish(-1, 2, 1), BAD);
        due("unchanged", x.wish(0, 2, 3), 3);
        DanceCards y = new DanceCards();
        y.person(true, 0);
        y.person(false, 9);
        due("strangers may wish", y.wish(0, 1, 2), 0);
    }

    private static void p26Fewest() {
        DanceCards x = Due.ball(2, 3);
        x.wish(0, 2, 3);
        due("one pair", x.fewest(), 3);
        x.wish(1, 2, 2);
        due("of a gentleman", x.fewest(), 5);
        x.wish(1, 3, 2);
        x.wish(1, 4, 2);
        due("of a lady", x.fewest(), 6);
        x.wish(1, 4, 0);
        due("less", x.fewest(), 5);
        DanceCards y = Due.ball(1, 15);
        for (int g = 1; g < 16; g++) y.wish(0, g, 4);
        due("the most that can be", y.fewest(), 60);
        due("her last one", y.laid(0, 59), 15);
        due("behind it", y.laid(0, 60), NONE);
    }

    private static void p27Laid() {
        DanceCards x = Due.ball(2, 2);
        x.wish(0, 2, 1);
        x.wish(0, 3, 1);
        dueLaid("a row of nothing", x, 0, 2, 3, NONE);
        x.wish(1, 2, 1);
        // a 0, b 1: the row is 2-0 in 0, 0-3 in 1; then 1-2 goes into 0.
        dueLaid("a row of two", x, 0, 3, 2, NONE);
        dueLaid("a row of two", x, 1, 2, NONE, NONE);
        dueLaid("a row of two", x, 2, 1, 0, NONE);
        dueLaid("a row of two", x, 3, 0, NONE, NONE);
        x.wish(1, 3, 1);
        dueLaid("one free for both", x, 1, 2, 3, NONE);
        x.wish(0, 2, 0);
        dueLaid("fewer wishes", x, 0, 3, NONE, NONE);
        dueLaid("fewer wishes", x, 1, 2, 3, NONE);
        due("63", x.laid(0, 63), NONE);
        due("64", x.laid(0, 64), BAD);
        due("-1", x.laid(0, -1), BAD);
        due("nobody", x.laid(4, 0), BAD);
        due("-1", x.laid(-1, 0), BAD);
        due("cards are none of it", x.card(0, 0), NONE);
    }

    private static void p28Sets() {
        DanceCards x = Due.ball(8, 8);
        due("none", x.sets(0), 0);
        for (int i = 0; i < 8; i++) {
            x.ask(8 + i, i, 0);
            due(i + 1 + " couples", x.sets(0), i < 4 ? 1 : 2);
        }
        x.feud(0, 8, true);
        due("of one couple", x.sets(0), 2);
        x.feud(0, 1, true);
        x.feud(1, 10, true);
        x.feud(10, 0, true);
        due("three at feud", x.sets(0), 3);
        due("of another dance", x.sets(1), 0);
        due("24", x.sets(24), BAD);
        due("-1", x.sets(-1), BAD);
        for (int a = 0; a < 8; a++) for (int b = 0; b < a; b++) x.feud(a, b, true);
        due("each for itself", x.sets(0), 8);
        due("the last one", x.set(15, 0), 7);
    }

    private static void p29Set() {
        DanceCards x = Due.ball(5, 5);
        for (int i = 0; i < 5; i++) x.ask(9 - i, i, 4);
        dueSets("four at most", x, 4, 2, 0, 0, 0, 0, 1, 1, 0, 0, 0, 0);
        x.feud(0, 8, true);
        dueSets("lady and gentleman", x, 4, 2, 0, 1, 0, 0, 0, 0, 0, 0, 1, 0);
        x.feud(7, 6, true);
        dueSets("two gentlemen", x, 4, 2, 0, 1, 0, 1, 0, 0, 1, 0, 1, 0);
        x.feud(4, 2, true);
        x.feud(1, 4, true);
        // Now 2 goes with 1, against whom it is not, so that 4 finds a place.
        dueSets("looks ahead of itself", x, 4, 2, 0, 1, 1, 0, 0, 0, 0, 1, 1, 0);
        x.feud(5, 0, true);
        // 0, 1 and 4 are each against both others: three sets, and 2 goes back to 0.
        dueSets("the fewest", x, 4, 3, 0, 1, 0, 1, 2, 2, 1, 0, 1, 0);
        due("no couple", x.set(0, 5), NONE);
        x.refuse(0, 5, 5);
        due("sits", x.set(0, 5), NONE);
        due("24", x.set(0, 24), BAD);
        due("-1", x.set(0, -1), BAD);
        due("nobody", x.set(10, 4), BAD);
        due("-1", x.set(-1, 4), BAD);
        setThatLooksAhead();
    }

    /** The least set for each in turn would need three: 0 and 1 together leave no way for 2 and 3. */
    private static void setThatLooksAhead() {
        DanceCards x = Due.ball(4, 4);
        for (int i = 0; i < 4; i++) x.ask(4 + i, i, 0);
        x.feud(0, 2, true);
        x.feud(2, 3, true);
        x.feud(3, 1, true);
        dueSets("looks ahead", x, 0, 2, 0, 1, 1, 0, 0, 1, 1, 0);
    }

    private static void p30Count() {
        DanceCards x = Due.ball(3, 2);
        x.person(false, 9);
        x.introduce(NONE, 0, 1);
        x.ask(3, 0, 0);
        x.ask(4, 1, 0);
        x.ask(4, 1, 23);
        x.refuse(2, 3, 7);
        x.ill(5);
        Due.tell(x, "row 4; pair 9;");
        Due.type(x, "row");
        x.sheet(0, 1, 7);
        x.sheet(1, 1, 8);
        int[] wanted = {6, 3, 3, 2, 1, 7, 7, 3};
        for (int what = 0; what < wanted.length; what++) due("count(" + what + ")", x.count(what), wanted[what]);
        due("count(8)", x.count(8), BAD);
        due("count(-1)", x.count(-1), BAD);
        due("count(lowest)", x.count(LOW), BAD);
    }

    public static void main(String[] args) {
        p01NewObject();
        p02Person();
        p03Introduce();
        p04Feud();
        p05Knows();
        p06Feed();
        p07End();
        p08Customs();
        p09Fault();
        p10Custom();
        p11Ask();
        p12Why();
        p13Refuse();
        p14Part();
        p15Swap();
        p16Card();
        p17Ill();
        p18Well();
        p19Could();
        p20Fill();
        p21About();
        p22Sheet();
        p23Lay();
        p24Scan();
        p25Wish();
        p26Fewest();
        p27Laid();
        p28Sets();
        p29Set();
        p30Count();
        Due.finish();
    }
}
