/** Promises 1 to 5 at their edges. Each method tests the sentence of the document that stands above it. */
public final class PeopleEdgeTest {
    private static final int BAD = DanceCards.BAD, STATE = DanceCards.STATE;
    private static final int FULL = DanceCards.FULL, NONE = DanceCards.NONE;

    private static void due(String call, long got, long want) {
        Due.due(call, got, want);
    }

    private static DanceCards peopleOnly(int number) {
        DanceCards x = new DanceCards();
        for (int i = 0; i < number; i++) x.person(i % 2 == 0, i % 10);
        return x;
    }

    /** "A new object: No PEOPLE" */
    private static void newHasNoPeople() {
        DanceCards x = new DanceCards();
        due("new: people", x.count(0), 0);
        due("new: ladies", x.count(1), 0);
        due("new: couples", x.count(2), 0);
        due("new: ill ones", x.count(4), 0);
        due("new: pairs", x.count(5), 0);
        due("new: introduce", x.introduce(NONE, 0, 1), BAD);
        due("new: feud", x.feud(0, 1, true), BAD);
        due("new: knows", x.knows(0, 0), BAD);
        due("new: ask", x.ask(0, 1, 0), BAD);
        due("new: why", x.why(0, 1, 0), BAD);
        due("new: refuse", x.refuse(0, 1, 0), BAD);
        due("new: part", x.part(0, 1, 0), BAD);
        due("new: swap", x.swap(0, 1, 0), BAD);
        due("new: card", x.card(0, 0), BAD);
        due("new: ill", x.ill(0), BAD);
        due("new: well", x.well(0), BAD);
        due("new: about", x.about(0, 0), BAD);
        due("new: wish", x.wish(0, 1, 1), BAD);
        due("new: laid", x.laid(0, 0), BAD);
        due("new: set", x.set(0, 0), BAD);
        due("new: fewest", x.fewest(), 0);
        for (int d = 0; d < 24; d++) {
            due("new: could", x.could(d), 0);
            due("new: fill", x.fill(d), 0);
            due("new: sets", x.sets(d), 0);
        }
        due("the first one", x.person(false, 0), 0);
    }

    /** "A new object: no customs", and no FAULT, and nothing on THE TAPE */
    private static void newHasNoCustoms() {
        DanceCards x = new DanceCards();
        Due.dueRow("new: custom", x::custom, NONE, NONE, NONE, NONE);
        due("new: customs told", x.count(3), 0);
        due("new: tape", x.count(7), 0);
        due("new: fault", x.fault(), 0);
        due("new: customs of an empty tape", x.customs(), 0);
    }

    /** "A new object: SHEETS have nothing." */
    private static void newHasNoSheets() {
        DanceCards x = new DanceCards();
        due("new: cells", x.count(6), NONE);
        for (int k = 0; k < 4; k++) {
            due("new: lay", x.lay(k, 0, 0), -11);
            for (int lane = 0; lane < 3; lane++) due("new: scan", x.scan(k, lane, 0, 0), -21);
        }
    }

    /** A new object is new, whatever another one has been told. */
    private static void newIsNewBesideAnother() {
        DanceCards old = Due.ball(2, 2);
        old.ask(2, 0, 0);
        old.feud(0, 3, true);
        old.ill(1);
        old.wish(0, 2, 4);
        old.sheet(0, 1, 5);
        Due.tell(old, "pair 1;");
        Due.tell(old, "?");
        Due.type(old, "row");
        newHasNoPeople();
        newHasNoCustoms();
        newHasNoSheets();
        due("the other: people", old.count(0), 4);
        due("the other: couple", old.card(0, 0), 2);
        due("the other: tape", old.count(7), 3);
        due("the other: custom", old.custom(0), 1);
    }

    /** "PEOPLE (16) are numbered as they come" */
    private static void peopleAreNumberedAsTheyCome() {
        for (int ladies = 0; ladies <= 16; ladies++) {
            DanceCards x = new DanceCards();
            for (int i = 0; i < 16; i++) due("person " + i, x.person(i < ladies, 9 - i % 10), i);
            due("ladies", x.count(1), ladies);
            due("people", x.count(0), 16);
        }
    }

    /** "person: FULL": the sixteenth comes, the seventeenth does not, lady or gentleman. */
    private static void seventeenthIsFull() {
        DanceCards x = peopleOnly(15);
        due("the sixteenth", x.person(false, 9), 15);
        due("a seventeenth lady", x.person(true, 0), FULL);
        due("a seventeenth gentleman", x.person(false, 9), FULL);
        due("people still", x.count(0), 16);
        due("ladies still", x.count(1), 8);
        due("the last one is there", x.card(15, 0), NONE);
        due("behind the last", x.card(16, 0), BAD);
        due("the first is a lady still", x.introduce(NONE, 0, 15) + x.ask(15, 0, 0), 2);
    }

    /** "each with a RANK (0 to 9)"; "person: BAD" */
    private static void rankIsNullToNine() {
        DanceCards x = new DanceCards();
        Due.dueBadOutside("rank of a lady", 0, 9, r -> x.person(true, r));
        Due.dueBadOutside("rank of a gentleman", 0, 9, r -> x.person(false, r));
        due("nobody came", x.count(0), 0);
        for (int rank = 0; rank <= 9; rank++) due("rank " + rank, x.person(true, rank), rank);
    }

    /** "the first that fits": BAD ahead of FULL */
    private static void wrongRankOfOneTooMany() {
        DanceCards x = peopleOnly(16);
        Due.dueBadOutside("rank of a seventeenth", 0, 9, r -> x.person(true, r));
        due("a right rank", x.person(true, 9), FULL);
    }

    /** "BAD: there is no such PERSON": numbers at and behind the last who came, ahead of the first */
    private static void onlyThoseWhoCameAreThere() {
        for (int number : new int[] {2, 3, 15, 16}) {
            DanceCards x = peopleOnly(number);
            Due.dueBadOutside("introduce a", 0, number - 1, p -> x.introduce(NONE, p, 0));
            Due.dueBadOutside("introduce b", 0, number - 1, p -> x.introduce(NONE, 0, p));
            Due.dueBadOutside("introduce by", 0, number - 1, p -> p == NONE ? BAD : x.introduce(p, 0, 1));
            Due.dueBadOutside("feud a", 0, number - 1, p -> x.feud(p, 0, true));
            Due.dueBadOutside("feud b", 0, number - 1, p -> x.feud(0, p, true));
            Due.dueBadOutside("feud a off", 0, number - 1, p -> x.feud(p, 0, false));
            Due.dueBadOutside("knows a", 0, number - 1, p -> x.knows(p, 0));
            Due.dueBadOutside("knows b", 0, number - 1, p -> x.knows(0, p));
            due("the last one", x.introduce(NONE, number - 1, 0), 1);
            due("knows the last one", x.knows(0, number - 1), 1);
            due("feud with the last one", x.feud(number - 1, 0, true), 0);
        }
    }

    /** One who is not there becomes one who is, when he comes. */
    private static void whoComesIsThere() {
        DanceCards x = peopleOnly(1);
        due("ahead of it", x.knows(0, 1), BAD);
        due("feud ahead of it", x.feud(0, 1, true), BAD);
        x.person(false, 0);
        due("behind it", x.knows(0, 1), 0);
        due("no feud came of what was refused", x.feud(0, 1, false), 0);
    }

    /** "introduce: BAD: also a and b are one" */
    private static void introduceOneToOneself() {
        DanceCards x = peopleOnly(3);
        for (int p = 0; p < 3; p++) {
            due("by nobody", x.introduce(NONE, p, p), BAD);
            due("by another", x.introduce((p + 1) % 3, p, p), BAD);
            due("by oneself", x.introduce(p, p, p), BAD);
            due("knows oneself", x.knows(p, p), 0);
        }
        due("pairs", x.count(5), 0);
    }

    /** "introduce: BAD: by is one of them", known already or not */
    private static void introduceByOneOfThem() {
        DanceCards x = peopleOnly(3);
        due("by a", x.introduce(0, 0, 1), BAD);
        due("by b", x.introduce(1, 0, 1), BAD);
        due("not known", x.knows(0, 1), 0);
        x.introduce(NONE, 0, 1);
        due("by a, known already", x.introduce(0, 0, 1), BAD);
        due("by b, known already", x.introduce(1, 0, 1), BAD);
    }

    /** "introduce: by NONE: whoever they are" */
    private static void introduceByNobody() {
        DanceCards x = new DanceCards();
        x.person(true, 0);
        x.person(true, 9);
        x.person(false, 0);
        x.person(false, 9);
        x.ill(1);
        x.feud(0, 2, true);
        due("two ladies", x.introduce(NONE, 0, 1), 1);
        due("two gentlemen", x.introduce(NONE, 3, 2), 1);
        due("at feud", x.introduce(NONE, 0, 2), 1);
        due("ill", x.introduce(NONE, 3, 1), 1);
        due("pairs", x.count(5), 4);
        due("feud still", x.why(2, 0, 0), 3);
    }

    /** "introduce: STATE: by does not KNOW both": none of them, the first alone, the second alone */
    private static void introduceByOneWhoKnowsNotBoth() {
        DanceCards x = peopleOnly(4);
        due("knows none", x.introduce(2, 0, 1), STATE);
        x.introduce(NONE, 2, 0);
        due("knows a alone", x.introduce(2, 0, 1), STATE);
        due("knows b alone", x.introduce(2, 1, 0), STATE);
        due("not known yet", x.knows(0, 1), 0);
        x.introduce(NONE, 1, 2);
        due("another who knows none", x.introduce(3, 0, 1), STATE);
        due("knows both", x.introduce(2, 0, 1), 1);
        due("a knows b", x.knows(0, 1), 1);
        due("b knows a", x.knows(1, 0), 1);
        due("the others do not", x.knows(3, 0) + x.knows(3, 1) + x.knows(3, 2), 0);
    }

    /** "introduce: STATE: they KNOW one another already" */
    private static void introduceThoseWhoKnow() {
        DanceCards x = peopleOnly(4);
        x.introduce(NONE, 0, 1);
        due("by nobody", x.introduce(NONE, 0, 1), STATE);
        due("by nobody, the other way round", x.introduce(NONE, 1, 0), STATE);
        due("by one who knows none", x.introduce(2, 0, 1), STATE);
        x.introduce(NONE, 2, 0);
        x.introduce(NONE, 2, 1);
        due("by one who knows both", x.introduce(2, 1, 0), STATE);
        due("pairs", x.count(5), 3);
    }

    /** "the first that fits": BAD ahead of STATE */
    private static void introduceWrongAndKnown() {
        DanceCards x = peopleOnly(2);
        x.introduce(NONE, 0, 1);
        due("by 2 of 2", x.introduce(2, 0, 1), BAD);
        due("by -1", x.introduce(-1, 0, 1), BAD);
        due("by -3", x.introduce(-3, 0, 1), BAD);
        due("by -5", x.introduce(-5, 0, 1), BAD);
        due("by nobody", x.introduce(NONE, 0, 1), STATE);
    }

    /** "Two KNOW one another": 120 pairs at most, each both ways */
    private static void allKnowOneAnother() {
        DanceCards x = peopleOnly(16);
        int pairs = 0;
        for (int a = 0; a < 16; a++) {
            for (int b = 0; b < a; b++) {
                due("introduce " + a + " " + b, x.introduce(NONE, a, b), 1);
                pairs++;
            }
            due("pairs", x.count(5), pairs);
        }
        for (int a = 0; a < 16; a++) {
            for (int b = 0; b < 16; b++) due("knows " + a + " " + b, x.knows(a, b), a == b ? 0 : 1);
        }
    }

    /** "feud: whether they were (1, 0)", on and off, again and again, either way round */
    private static void feudTellsWhatWas() {
        DanceCards x = peopleOnly(16);
        due("off at first", x.feud(0, 15, false), 0);
        due("on", x.feud(0, 15, true), 0);
        due("on again", x.feud(0, 15, true), 1);
        due("on again, the other way round", x.feud(15, 0, true), 1);
        due("of others", x.feud(0, 14, false) + x.feud(1, 15, false), 0);
        due("off", x.feud(15, 0, false), 1);
        due("off again", x.feud(15, 0, false), 0);
        due("off again, the other way round", x.feud(0, 15, false), 0);
        due("nobody knows anybody by that", x.count(5), 0);
    }

    /** "feud: BAD: also a and b are one" */
    private static void feudWithOneself() {
        DanceCards x = peopleOnly(2);
        due("on", x.feud(0, 0, true), BAD);
        due("off", x.feud(1, 1, false), BAD);
        due("the same that is nobody", x.feud(2, 2, true), BAD);
    }

    /** "COUPLES that there are stay": a FEUD that comes later parts nobody. */
    private static void feudPartsNobody() {
        DanceCards x = Due.ball(1, 1);
        x.ask(1, 0, 0);
        x.feud(0, 1, true);
        due("still a couple", x.card(0, 0), 1);
        due("in no other dance", x.ask(1, 0, 1), -13);
        due("part", x.part(1, 0, 0), 1);
        due("not again", x.ask(1, 0, 0), -13);
    }

    public static void main(String[] args) {
        newHasNoPeople();
        newHasNoCustoms();
        newHasNoSheets();
        newIsNewBesideAnother();
        peopleAreNumberedAsTheyCome();
        seventeenthIsFull();
        rankIsNullToNine();
        wrongRankOfOneTooMany();
        onlyThoseWhoCameAreThere();
        whoComesIsThere();
        introduceOneToOneself();
        introduceByOneOfThem();
        introduceByNobody();
        introduceByOneWhoKnowsNotBoth();
        introduceThoseWhoKnow();
        introduceWrongAndKnown();
        allKnowOneAnother();
        feudTellsWhatWas();
        feudWithOneself();
        feudPartsNobody();
        Due.finish();
    }
}
