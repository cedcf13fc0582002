import java.util.function.ToIntFunction;

/**
 * "what is refused changes nothing (but THE TAPE, as told)": each refused call, one by one, on a ball where there is
 * something of everything; behind it all that can be asked of the ball is as on one that was not asked to.
 */
public final class RefusalTest {
    private static final int BAD = DanceCards.BAD, STATE = DanceCards.STATE, NONE = DanceCards.NONE;
    private static final int LOW = Integer.MIN_VALUE, HIGH = Integer.MAX_VALUE;
    private static final int PEOPLE = 7;

    private static String untouched;

    /** Ladies 0, 1, 2 and gentlemen 3, 4, 5, 6. */
    private static DanceCards busyBall() {
        DanceCards x = new DanceCards();
        int[] ranks = {2, 2, 7, 2, 2, 9, 2};
        for (int p = 0; p < PEOPLE; p++) x.person(p < 3, ranks[p]);
        int[][] known = {{0, 3}, {0, 4}, {0, 5}, {0, 6}, {1, 3}, {1, 4}, {2, 3}, {0, 1}};
        for (int[] pair : known) x.introduce(NONE, pair[0], pair[1]);
        x.ask(3, 0, 5);
        x.ask(3, 0, 7);
        x.ask(4, 0, 20);
        x.ask(3, 1, 20);
        x.ask(4, 1, 17);
        x.refuse(1, 3, 9);
        x.feud(1, 4, true);
        x.feud(0, 2, true);
        x.ill(2);
        Due.tell(x, "pair 2; rank 5; row 1; supper 15;");
        Due.tell(x, "rank 1; ;");
        Due.type(x, "row 7; pair 11;");
        x.sheet(0, 0, 10);
        int[] cells = {6, 0, 1, 3, 1, 12, 0, 0, 0, 6};
        for (int i = 0; i < cells.length; i++) x.lay(0, i, cells[i]);
        x.sheet(1, 2, 2);
        x.sheet(2, 1, 0);
        x.wish(0, 3, 2);
        x.wish(1, 3, 1);
        x.wish(1, 4, 4);
        return x;
    }

    /** All that can be asked of the ball; it is used up by that, and stays below 512 calls. */
    private static String picture(DanceCards x) {
        StringBuilder told = new StringBuilder();
        for (int what = 0; what < 8; what++) told.append(x.count(what)).append(' ');
        told.append("fault ").append(x.fault()).append(" customs ");
        for (int k = 0; k < 4; k++) told.append(x.custom(k)).append(' ');
        for (int p = 0; p < PEOPLE; p++) {
            told.append("\ncard of ").append(p).append(": ");
            for (int d = 0; d < 24; d++) told.append(x.card(p, d)).append(' ');
            told.append("laid: ");
            for (int d = 0; d < 8; d++) told.append(x.laid(p, d)).append(' ');
        }
        told.append("\nwhy: ");
        for (int g = 3; g < PEOPLE; g++) for (int l = 0; l < 3; l++) told.append(x.why(g, l, 22)).append(' ');
        addSheets(x, told);
        addPeople(x, told);
        told.append("\ntape: ").append(x.customs()).append(' ').append(x.fault());
        for (int k = 0; k < 4; k++) told.append(' ').append(x.custom(k));
        return told.append("\nthe next one: ").append(x.person(true, 0)).toString();
    }

    private static void addSheets(DanceCards x, StringBuilder told) {
        told.append("\nsheets: ");
        for (int k = 0; k < 4; k++) {
            for (int lane = 0; lane < 3; lane++) told.append(x.scan(k, lane, 0, 0)).append(' ');
            told.append(x.lay(k, 1, 0)).append(' ').append(x.lay(k, 2, 9)).append("; ");
        }
        for (int f = 0; f <= 8; f++) told.append(x.scan(0, 0, f, 1)).append(' ');
        told.append(x.card(0, 9)).append(' ').append(x.card(1, 12));
    }

    private static void addPeople(DanceCards x, StringBuilder told) {
        told.append("\npeople: ");
        for (int a = 0; a < PEOPLE; a++) {
            for (int b = 0; b < a; b++) told.append(x.knows(a, b)).append(x.feud(a, b, false)).append(' ');
        }
        for (int l = 0; l < 3; l++) for (int g = 3; g < PEOPLE; g++) told.append(x.wish(l, g, 0)).append(' ');
        for (int p = 0; p < PEOPLE; p++) told.append(x.well(p)).append(' ');
    }

    private static void dueSame(String call, DanceCards x) {
        String now = picture(x);
        if (!now.equals(untouched)) System.out.println(call + " changed\n" + untouched + "\ninto\n" + now);
        Due.due(call + " changes nothing", now.equals(untouched) ? 1 : 0, 1);
    }

    private static void dueRefused(String call, int wanted, ToIntFunction<DanceCards> refused) {
        DanceCards x = busyBall();
        Due.due(call, refused.applyAsInt(x), wanted);
        dueSame(call, x);
    }

    private static void dueQuestion(String call, int wanted, ToIntFunction<DanceCards> question) {
        dueRefused(call, wanted, question);
    }

    private static void people() {
        dueRefused("person, rank -1", BAD, x -> x.person(true, -1));
        dueRefused("person, rank 10", BAD, x -> x.person(false, 10));
        dueRefused("introduce a to a", BAD, x -> x.introduce(NONE, 1, 1));
        dueRefused("introduce by a", BAD, x -> x.introduce(0, 0, 2));
        dueRefused("introduce by b", BAD, x -> x.introduce(2, 0, 2));
        dueRefused("introduce by 7", BAD, x -> x.introduce(7, 1, 2));
        dueRefused("introduce by -1", BAD, x -> x.introduce(-1, 1, 2));
        dueRefused("introduce 7", BAD, x -> x.introduce(NONE, 7, 2));
        dueRefused("introduce to 7", BAD, x -> x.introduce(NONE, 2, 7));
        dueRefused("introduce to 16", BAD, x -> x.introduce(NONE, 2, 16));
        dueRefused("introduce those who know", STATE, x -> x.introduce(NONE, 3, 0));
        dueRefused("introduce by one who knows one alone", STATE, x -> x.introduce(5, 0, 1));
        dueRefused("introduce by one who knows none", STATE, x -> x.introduce(5, 1, 6));
        dueRefused("feud with oneself", BAD, x -> x.feud(3, 3, true));
        dueRefused("feud with 7", BAD, x -> x.feud(3, 7, true));
        dueRefused("feud of -1", BAD, x -> x.feud(-1, 3, true));
        dueRefused("feud of 32", BAD, x -> x.feud(32, 3, true));
        dueRefused("feud off with 33", BAD, x -> x.feud(4, 33, false));
        dueRefused("knows 7", BAD, x -> x.knows(7, 0));
    }

    private static void customs() {
        dueRefused("end(-1)", BAD, x -> x.end(-1));
        dueRefused("end(16) of 15", BAD, x -> x.end(16));
        dueRefused("end(lowest)", BAD, x -> x.end(LOW));
        dueRefused("custom(-1)", BAD, x -> x.custom(-1));
        dueRefused("custom(4)", BAD, x -> x.custom(4));
    }

    private static void asking() {
        dueRefused("ask: BAD", BAD, x -> x.ask(6, 0, 24));
        dueRefused("ask: BAD", BAD, x -> x.ask(6, 0, -1));
        dueRefused("ask: BAD", BAD, x -> x.ask(0, 6, 1));
        dueRefused("ask: BAD", BAD, x -> x.ask(7, 0, 1));
        int[][] wrong = {{3, 2, 22}, {5, 1, 6}, {4, 1, 2}, {5, 0, 2}, {3, 0, 5}, {3, 0, 12}, {4, 0, 6}, {6, 0, 15}};
        for (int i = 0; i < wrong.length; i++) {
            int[] w = wrong[i];
            int reason = i + 1;
            dueRefused("ask: " + reason, -10 - reason, x -> x.ask(w[0], w[1], w[2]));
            dueRefused("refuse: " + reason, -10 - reason, x -> x.refuse(w[1], w[0], w[2]));
            dueQuestion("why: " + reason, reason, x -> x.why(w[0], w[1], w[2]));
        }
        dueRefused("ask one who sits", -15, x -> x.ask(3, 1, 9));
        dueRefused("refuse: BAD", BAD, x -> x.refuse(0, 6, 24));
        dueRefused("refuse: BAD", BAD, x -> x.refuse(6, 0, 1));
        dueRefused("part: BAD", BAD, x -> x.part(0, 3, 5));
        dueRefused("part: BAD", BAD, x -> x.part(3, 0, 24));
        dueRefused("part: STATE", STATE, x -> x.part(3, 0, 6));
        dueRefused("part: STATE, each with another", STATE, x -> x.part(3, 0, 20));
        dueRefused("part: STATE, she sits", STATE, x -> x.part(3, 1, 9));
        dueRefused("swap: BAD", BAD, x -> x.swap(3, 3, 20));
        dueRefused("swap: BAD", BAD, x -> x.swap(3, 0, 20));
        dueRefused("swap: BAD", BAD, x -> x.swap(3, 4, 24));
        dueRefused("swap: STATE", STATE, x -> x.swap(3, 6, 20));
        dueRefused("swap: STATE", STATE, x -> x.swap(4, 3, 5));
        dueRefused("swap: pair", -16, x -> x.swap(3, 4, 20));
        dueRefused("swap: feud", -13, x -> x.swap(4, 3, 20));
        dueRefused("card: BAD", BAD, x -> x.card(7, 0));
        dueRefused("ill: BAD", BAD, x -> x.ill(7));
        dueRefused("ill: STATE", STATE, x -> x.ill(2));
        dueRefused("well: BAD", BAD, x -> x.well(-1));
        dueRefused("well: STATE", STATE, x -> x.well(0));
        dueRefused("could: BAD", BAD, x -> x.could(24));
        dueRefused("fill: BAD", BAD, x -> x.fill(24));
        dueRefused("fill: BAD", BAD, x -> x.fill(-1));
        dueRefused("about: BAD", BAD, x -> x.about(0, 4));
    }

    private static void sheets() {
        dueRefused("sheet: k", BAD, x -> x.sheet(4, 0, 5));
        dueRefused("sheet: lane", BAD, x -> x.sheet(0, 3, 5));
        dueRefused("sheet: lane of nothing", BAD, x -> x.sheet(3, -1, 5));
        dueRefused("sheet: 61", BAD, x -> x.sheet(0, 1, 61));
        dueRefused("sheet: SIZE", -14, x -> x.sheet(0, 1, -1));
        dueRefused("sheet: SIZE of nothing", -14, x -> x.sheet(3, 1, LOW));
        dueRefused("lay: k", BAD, x -> x.lay(4, 0, 1));
        dueRefused("lay: NULL", -11, x -> x.lay(3, 0, 1));
        dueRefused("lay: INDEX", -12, x -> x.lay(0, 10, 1));
        dueRefused("lay: INDEX", -12, x -> x.lay(0, -1, 1));
        dueRefused("lay: INDEX of no cells", -12, x -> x.lay(2, 0, 1));
        dueRefused("scan: k", BAD, x -> x.scan(4, 0, 0, 1));
        dueRefused("scan: lane", BAD, x -> x.scan(0, 3, 0, 1));
        dueRefused("scan: n", BAD, x -> x.scan(0, 0, 0, 21));
        dueRefused("scan: n", BAD, x -> x.scan(0, 0, 0, -1));
        dueRefused("scan: NULL", -21, x -> x.scan(3, 0, 0, 1));
        dueRefused("scan: CAST", -23, x -> x.scan(0, 2, 0, 1));
        dueRefused("scan: INDEX", -22, x -> x.scan(0, 0, 8, 1));
        dueRefused("scan: INDEX", -22, x -> x.scan(0, 0, HIGH, 20));
        dueRefused("scan: one can, one is BAD", -30, x -> x.scan(0, 0, 0, 3));
        dueRefused("scan: none can", -30, x -> x.scan(0, 0, 6, 1));
        dueRefused("scan: WHY behind one that can", -32, x -> {
            int refused = layAndScan(x, 5, 1, 12);
            x.lay(0, 3, 3);
            return refused;
        });
        dueQuestion("scan of none", 0, x -> x.scan(0, 0, 5, 0));
    }

    /** The second asking of the first sheet becomes another; then both are read. */
    private static int layAndScan(DanceCards x, int... asking) {
        for (int i = 0; i < 3; i++) x.lay(0, 3 + i, asking[i]);
        return x.scan(0, 0, 0, 2);
    }

    private static void wishesAndSets() {
        dueRefused("wish: 5", BAD, x -> x.wish(0, 3, 5));
        dueRefused("wish: -1", BAD, x -> x.wish(0, 3, -1));
        dueRefused("wish: the other way round", BAD, x -> x.wish(3, 0, 1));
        dueRefused("wish: nobody", BAD, x -> x.wish(0, 7, 1));
        dueRefused("laid: BAD", BAD, x -> x.laid(0, 64));
        dueRefused("sets: BAD", BAD, x -> x.sets(24));
        dueRefused("set: BAD", BAD, x -> x.set(0, -1));
        dueRefused("set: NONE", NONE, x -> x.set(6, 5));
        dueRefused("count: BAD", BAD, x -> x.count(8));
    }

    /** Calls that only ask. */
    private static void questions() {
        dueQuestion("knows", 1, x -> x.knows(0, 3));
        dueQuestion("fault", 2, x -> x.fault());
        dueQuestion("custom", 15, x -> x.custom(3));
        dueQuestion("why", 0, x -> x.why(6, 0, 2));
        dueQuestion("card", 3, x -> x.card(1, 20));
        dueQuestion("could", 2, x -> x.could(2));
        dueQuestion("about", 4, x -> x.about(3, 0) + x.about(1, 3));
        dueQuestion("fewest", 5, x -> x.fewest());
        dueQuestion("laid", 3, x -> x.laid(0, 1));
        dueQuestion("sets", 2, x -> x.sets(20));
        dueQuestion("set", 1, x -> x.set(1, 20));
        dueQuestion("count", 5, x -> x.count(2));
        dueQuestion("end of all", 15, x -> x.end(15));
    }

    /** The picture does see what a call that is not refused changes. */
    private static void pictureSees() {
        dueChange("introduce", x -> x.introduce(NONE, 5, 6));
        dueChange("feud", x -> x.feud(5, 6, true));
        dueChange("ask", x -> x.ask(6, 0, 2));
        dueChange("refuse", x -> x.refuse(0, 6, 2));
        dueChange("part", x -> x.part(3, 0, 5));
        dueChange("ill", x -> x.ill(6));
        dueChange("well", x -> x.well(2));
        dueChange("wish", x -> x.wish(2, 6, 1));
        dueChange("sheet", x -> x.sheet(3, 0, 0));
        dueChange("lay", x -> x.lay(0, 4, 0));
        dueChange("end", x -> x.end(14));
        dueChange("feed", x -> x.feed(0));
        dueChange("customs", x -> x.customs());
        dueChange("person", x -> x.person(true, 0));
        dueChange("fill", x -> x.fill(2));
    }

    private static void dueChange(String call, ToIntFunction<DanceCards> change) {
        DanceCards x = busyBall();
        change.applyAsInt(x);
        Due.due(call + " is seen", picture(x).equals(untouched) ? 1 : 0, 0);
    }

    public static void main(String[] args) {
        untouched = picture(busyBall());
        people();
        customs();
        asking();
        sheets();
        wishesAndSets();
        questions();
        pictureSees();
        Due.finish();
    }
}
