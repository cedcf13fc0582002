/** Promises 22 to 24 at their edges. Each method tests the sentence of the document that stands above it. */
public final class SheetsEdgeTest {
    private static final int BAD = DanceCards.BAD, NONE = DanceCards.NONE;
    private static final int LOW = Integer.MIN_VALUE, HIGH = Integer.MAX_VALUE;

    private static void due(String call, long got, long want) {
        Due.due(call, got, want);
    }

    private static void layAll(DanceCards x, int k, int from, int... cells) {
        for (int i = 0; i < cells.length; i++) due("lay " + (from + i), x.lay(k, from + i, cells[i]), 1);
    }

    /** "SHEETS 0 to 3"; "lane 0, 1, 2"; "sheet: BAD" */
    private static void sheetIsBad() {
        DanceCards x = new DanceCards();
        Due.dueBadOutside("sheet: k", 0, 3, k -> x.sheet(k, 0, 1));
        Due.dueBadOutside("sheet: lane", 0, 2, lane -> x.sheet(0, lane, 1));
        due("still nothing", x.count(6), NONE);
        for (int k = 0; k < 4; k++) due("still nothing", x.lay(k, 0, 0), -11);
        for (int k = 0; k < 4; k++) {
            for (int lane = 0; lane < 3; lane++) due("sheet " + k + " of lane " + lane, x.sheet(k, lane, 1), 1);
        }
    }

    /** "0 to 60 CELLS"; "sheet: BAD: also n above 60; -10 - 4": every number of cells */
    private static void sheetSizes() {
        for (int lane = 0; lane < 3; lane++) {
            DanceCards x = new DanceCards();
            for (int n = 0; n <= 60; n++) {
                due("sheet of " + n, x.sheet(0, lane, n), 1);
                due("cells", x.count(6), n);
            }
            for (int n : new int[] {61, 62, 64, 100, 256, 65536, HIGH - 1, HIGH}) due("sheet of " + n, x.sheet(0, lane, n), BAD);
            for (int n : new int[] {-1, -2, -4, -60, -61, -256, LOW + 1, LOW}) due("sheet of " + n, x.sheet(0, lane, n), -14);
            due("cells still", x.count(6), 60);
        }
    }

    /** "the first that fits": BAD ahead of SIZE */
    private static void badAheadOfSize() {
        DanceCards x = new DanceCards();
        due("k 4", x.sheet(4, 0, -1), BAD);
        due("k -1", x.sheet(-1, 0, -1), BAD);
        due("lane 3", x.sheet(0, 3, -1), BAD);
        due("lane -1", x.sheet(0, -1, LOW), BAD);
        due("all right but the size", x.sheet(3, 2, -1), -14);
        due("a sheet refused is nothing still", x.lay(3, 0, 0), -11);
    }

    /** "sheet: A SHEET is a new row of CELLS 0": what was laid is gone, so are lane and length */
    private static void sheetIsNew() {
        DanceCards x = Due.ball(1, 1);
        for (int k = 0; k < 4; k++) {
            x.sheet(k, 0, 6);
            layAll(x, k, 0, 1, 0, k, 1, 0, k + 4);
            due("what was laid", x.scan(k, 0, 0, 1), 1);
            x.sheet(k, 0, 6);
            due("all are 0, no gentleman", x.scan(k, 0, 3, 1), -30);
            x.sheet(k, 1, 2);
            due("another lane", x.scan(k, 0, 0, 0), -23);
            due("its own", x.scan(k, 1, 0, 0), 0);
            due("shorter", x.lay(k, 2, 0), -12);
            x.sheet(k, 1, 6);
            due("longer, and 0 where something was", x.scan(k, 1, 3, 1), -30);
        }
    }

    /** All 60 cells of a new row are 0: where the gentleman is person 0 and so is the dance, only the lady is missing. */
    private static void everyCellIsNull() {
        for (int lane = 0; lane < 3; lane++) {
            for (int i = 1; i < 59; i++) {
                DanceCards x = new DanceCards();
                x.person(false, 0);
                x.person(true, 0);
                x.introduce(NONE, 0, 1);
                x.sheet(2, lane, 60);
                for (int cell = 0; cell < 60; cell++) x.lay(2, cell, 99);
                x.sheet(2, lane, 60);
                x.lay(2, i, 1);
                due("from " + (i - 1), x.scan(2, lane, i - 1, 1), 1);
                due("dance 0", x.card(0, 0), 1);
            }
        }
    }

    /** "what is refused changes nothing": a row stays when a new one is refused */
    private static void sheetRefusedStays() {
        DanceCards x = Due.ball(1, 1);
        x.sheet(0, 1, 3);
        layAll(x, 0, 0, 1, 0, 5);
        x.sheet(0, 1, 61);
        x.sheet(0, 2, -1);
        x.sheet(0, 3, 3);
        due("cells", x.count(6), 3);
        due("what was laid", x.scan(0, 1, 0, 1), 1);
        due("dance 5", x.card(0, 5), 1);
    }

    /** Sheets are rows of their own: what is laid in one is not in another. */
    private static void sheetsAreApart() {
        DanceCards x = Due.ball(1, 1);
        for (int k = 0; k < 4; k++) x.sheet(k, k % 3, 60);
        for (int k = 0; k < 4; k++) layAll(x, k, 57, 1, 0, 10 + k);
        for (int k = 0; k < 4; k++) layAll(x, k, 0, 1, 0, k);
        for (int k = 0; k < 4; k++) {
            due("the last cells of " + k, x.scan(k, k % 3, 57, 1), 1);
            due("its dance", x.card(0, 10 + k), 1);
            due("the first cells of " + k, x.scan(k, k % 3, 0, 1), 1);
            due("its dance", x.card(0, k), 1);
        }
        x.sheet(1, 0, 0);
        due("the others stay", x.count(6), 60);
        due("the one ahead", x.lay(0, 59, 1), 1);
        due("the one behind", x.lay(2, 59, 1), 1);
    }

    /** "lay: BAD: k", ahead of NULL and INDEX */
    private static void layIsBad() {
        DanceCards x = new DanceCards();
        Due.dueBadOutside("lay: k, nothing", 0, 3, k -> x.lay(k, 0, 0));
        for (int k = 0; k < 4; k++) x.sheet(k, 0, 1);
        Due.dueBadOutside("lay: k", 0, 3, k -> x.lay(k, 0, 0));
        Due.dueBadOutside("lay: k, and no such cell", 0, 3, k -> x.lay(k, -1, 0));
        for (int k = 0; k < 4; k++) due("lay: k " + k, x.lay(k, 0, 0), 1);
    }

    /** "lay: -10 less the FAULT: NULL, INDEX": NULL ahead of INDEX */
    private static void layFaults() {
        DanceCards x = new DanceCards();
        for (int k = 0; k < 4; k++) {
            for (int i : new int[] {LOW, -1, 0, 59, 60, HIGH}) due("lay into nothing", x.lay(k, i, 1), -11);
        }
        for (int n : new int[] {0, 1, 3, 59, 60}) {
            x.sheet(1, 2, n);
            for (int i : new int[] {LOW, LOW + 1, -60, -1, n, n + 1, 60, 61, 256, 65536, HIGH - 1, HIGH}) {
                due("cell " + i + " of " + n, x.lay(1, i, 1), -12);
            }
            for (int i = 0; i < n; i++) due("cell " + i + " of " + n, x.lay(1, i, 1), 1);
        }
    }

    /** A ball where the gentleman is 1 and the lady 0; a sheet of a lane with that asking, but for one cell. */
    private static int scanWith(int lane, int cell, int value) {
        DanceCards x = Due.ball(1, 1);
        x.sheet(0, lane, 3);
        layAll(x, 0, 0, 1, 0, 5);
        layAll(x, 0, cell, value);
        return x.scan(0, lane, 0, 1);
    }

    /** "lay: CELL i of a SHEET becomes v (its lowest bits)": 8, 16, 32; at each of the three cells of an asking */
    private static void lowestBits() {
        int[] right = {1, 0, 23};
        for (int cell = 0; cell < 3; cell++) {
            int v = right[cell];
            int[] eight = {v + 256, v - 256, v + 512, v + 0x7f00, v - 0x8000, v + 0xff00, v - 0xff00};
            int[] sixteen = {v + 65536, v - 65536, v + 0x7fff0000, v + LOW, v + (1 << 24)};
            for (int lane = 0; lane < 3; lane++) due("right", scanWith(lane, cell, v), 1);
            for (int wide : eight) {
                due("bytes: " + wide, scanWith(0, cell, wide), 1);
                due("shorts: " + wide, scanWith(1, cell, wide), -30);
                due("ints: " + wide, scanWith(2, cell, wide), -30);
            }
            for (int wide : sixteen) {
                due("bytes: " + wide, scanWith(0, cell, wide), 1);
                due("shorts: " + wide, scanWith(1, cell, wide), 1);
                due("ints: " + wide, scanWith(2, cell, wide), -30);
            }
            for (int lane = 0; lane < 3; lane++) {
                for (int odd : new int[] {-1, -2, -4, 127, 128, 255}) due("no such one", scanWith(lane, cell, odd), -30);
                for (int odd : new int[] {32767, 65535, HIGH}) due("no such one", scanWith(lane, cell, odd), -30);
            }
        }
    }

    /** "scan: BAD: k, lane, n", ahead of every FAULT; "n (0 to 20)" */
    private static void scanIsBad() {
        DanceCards x = Due.ball(1, 1);
        Due.dueBadOutside("scan: k, nothing", 0, 3, k -> x.scan(k, 0, 0, 0));
        Due.dueBadOutside("scan: lane, nothing", 0, 2, lane -> x.scan(0, lane, 0, 0));
        Due.dueBadOutside("scan: n, nothing", 0, 20, n -> x.scan(0, 0, 0, n));
        x.sheet(0, 1, 60);
        Due.dueBadOutside("scan: k", 0, 3, k -> x.scan(k, 1, 0, 1));
        Due.dueBadOutside("scan: lane", 0, 2, lane -> x.scan(0, lane, -1, 1));
        Due.dueBadOutside("scan: n, another lane", 0, 20, n -> x.scan(0, 0, 0, n));
        Due.dueBadOutside("scan: n, no such cell", 0, 20, n -> x.scan(0, 1, 60, n));
        due("couples", x.count(2), 0);
    }

    /** "-20 less the FAULT: NULL, CAST, then one by one INDEX": NULL ahead of CAST ahead of INDEX, with 0 askings, too */
    private static void scanFaultsInOrder() {
        DanceCards x = Due.ball(1, 1);
        for (int lane = 0; lane < 3; lane++) {
            for (int n : new int[] {0, 1, 20}) due("nothing", x.scan(2, lane, -1, n), -21);
        }
        for (int own = 0; own < 3; own++) {
            x.sheet(2, own, 2);
            for (int lane = 0; lane < 3; lane++) {
                due("none of lane " + lane, x.scan(2, lane, -1, 0), lane == own ? 0 : -23);
                due("one of lane " + lane, x.scan(2, lane, -1, 1), lane == own ? -22 : -23);
            }
        }
        x.sheet(2, 0, 0);
        due("an empty row is not nothing", x.scan(2, 0, 0, 0), 0);
        due("but has no cells", x.scan(2, 0, 0, 1), -22);
        due("and a lane", x.scan(2, 1, 0, 0), -23);
    }

    /** "INDEX (of its three CELLS)": each of the three may be the one that is missing; "from CELL f on" */
    private static void scanIndex() {
        for (int n = 0; n <= 6; n++) {
            for (int f = -4; f <= 7; f++) {
                DanceCards x = Due.ball(1, 1);
                x.sheet(1, 2, n);
                // 1, 0 and so on: an asking of gentleman 1 and lady 0 wherever an even cell is the first.
                for (int i = 0; i < n; i++) x.lay(1, i, i % 2 == 0 ? 1 : 0);
                boolean inside = f >= 0 && f + 3 <= n;
                due("from " + f + " of " + n, x.scan(1, 2, f, 1), !inside ? -22 : f % 2 == 0 ? 1 : -30);
                due("none from " + f + " of " + n, x.scan(1, 2, f, 0), 0);
            }
        }
        DanceCards x = Due.ball(1, 1);
        x.sheet(1, 2, 60);
        for (int f : new int[] {LOW, LOW + 1, -60, -3, -2, -1, 58, 59, 60, 61, HIGH - 60, HIGH - 2, HIGH - 1, HIGH}) {
            for (int n : new int[] {1, 2, 20}) due("from " + f, x.scan(1, 2, f, n), -22);
            due("none from " + f, x.scan(1, 2, f, 0), 0);
        }
    }

    /** A row with askings of gentleman 1 and lady 0 for dances 0 to 19, in a lane. */
    private static DanceCards ballWithTwenty(int lane) {
        DanceCards x = Due.ball(1, 2);
        x.sheet(3, lane, 60);
        for (int i = 0; i < 20; i++) layAll(x, 3, 3 * i, 1, 0, i);
        return x;
    }

    /** "n (0 to 20) askings are read: n": every number, each from its own cell on; 20 take all 60 cells */
    private static void scanEveryNumber() {
        for (int n = 0; n <= 20; n++) {
            DanceCards x = ballWithTwenty(n % 3);
            due("scan of " + n, x.scan(3, n % 3, 0, n), n);
            due("couples", x.count(2), n);
            for (int d = 0; d < 24; d++) due("dance " + d, x.card(0, d), d < n ? 1 : NONE);
        }
        for (int n = 0; n <= 20; n++) {
            DanceCards x = ballWithTwenty(0);
            int f = 60 - 3 * n;
            due("the last " + n, x.scan(3, 0, f, n), n);
            due("couples", x.count(2), n);
            if (n < 20) due("one more than there are", ballWithTwenty(0).scan(3, 0, f, n + 1), -22);
        }
    }

    /** "the first met: then none of them came": whatever is met, wherever it stands */
    private static void scanTakesAllBack() {
        for (int at = 0; at < 20; at++) {
            DanceCards x = ballWithTwenty(1);
            x.ask(2, 0, 23);
            x.lay(3, 3 * at + 2, 24);
            due("BAD at " + at, x.scan(3, 1, 0, 20), -30);
            due("none came", x.count(2), 1);
            due("those ahead of it", x.scan(3, 1, 0, at), at);
            due("came", x.count(2), at + 1);
        }
        for (int at = 0; at < 20; at++) {
            DanceCards x = ballWithTwenty(1);
            x.ask(2, 0, at);
            due("TAKEN at " + at, x.scan(3, 1, 0, 20), -35);
            due("none came", x.count(2), 1);
            due("the couple there stays", x.card(0, at), 2);
        }
        DanceCards x = ballWithTwenty(2);
        due("INDEX at the end", x.scan(3, 2, 3, 20), -22);
        due("none came", x.count(2), 0);
    }

    /** "-30: what ask() would be BAD for": the gentleman, the lady, the dance */
    private static void scanOfWhatIsBad() {
        int[][] wrong = {{3, 0, 0}, {-1, 0, 0}, {0, 0, 0}, {1, 3, 0}, {1, -4, 0}, {1, 2, 0}, {0, 1, 0}, {1, 0, 24}, {1, 0, -1},
            {0, 1, 24}, {-1, -1, -1}};
        for (int[] asking : wrong) {
            DanceCards x = Due.ball(1, 2);
            x.sheet(0, 2, 3);
            layAll(x, 0, 0, asking);
            due("BAD", x.scan(0, 2, 0, 1), -30);
            x.ill(0);
            x.ill(1);
            due("BAD ahead of WHY", x.scan(0, 2, 0, 1), -30);
        }
    }

    /** "the first met", "one by one": what an asking ahead has comes ahead of what one behind it has */
    private static void scanMeetsTheFirst() {
        DanceCards x = Due.ball(1, 2);
        x.sheet(0, 0, 8);
        layAll(x, 0, 0, 1, 0, 0, 1, 0, 99, 1, 0);
        due("BAD, then INDEX", x.scan(0, 0, 0, 3), -30);
        x.lay(0, 5, 0);
        due("WHY, then INDEX", x.scan(0, 0, 0, 3), -35);
        x.lay(0, 5, 1);
        due("INDEX at last", x.scan(0, 0, 0, 3), -22);
        x.lay(0, 6, 99);
        due("INDEX of one that would be BAD", x.scan(0, 0, 6, 1), -22);
        x.lay(0, 2, 24);
        x.lay(0, 5, 24);
        due("BAD twice", x.scan(0, 0, 0, 2), -30);
        x.lay(0, 2, 3);
        x.feud(0, 1, true);
        due("WHY, then BAD", x.scan(0, 0, 0, 2), -33);
        due("none came", x.count(2), 0);
    }

    /** Askings of one sheet count for those behind them: TAKEN, pair, row, and supper the other way. */
    private static void scanCountsItsOwn() {
        DanceCards x = Due.ball(1, 2);
        x.sheet(0, 0, 6);
        layAll(x, 0, 0, 1, 0, 4, 2, 0, 4);
        due("TAKEN", x.scan(0, 0, 0, 2), -35);
        layAll(x, 0, 0, 1, 0, 4, 1, 0, 5);
        Due.tell(x, "pair 1;");
        due("pair", x.scan(0, 0, 0, 2), -36);
        Due.tell(x, "row 1;");
        due("row", x.scan(0, 0, 0, 2), -37);
        Due.tell(x, "supper 4;");
        due("supper too early", x.scan(0, 0, 0, 2), -38);
        Due.tell(x, "supper 5;");
        due("supper behind another", x.scan(0, 0, 0, 2), 2);
        due("couples", x.count(2), 2);
    }

    /** "6 CELLS of SHEET 0 (NONE: nothing)": of no other sheet */
    private static void cellsOfTheFirst() {
        DanceCards x = new DanceCards();
        x.sheet(1, 0, 5);
        x.sheet(3, 0, 6);
        due("nothing", x.count(6), NONE);
        x.sheet(0, 0, 0);
        due("no cells", x.count(6), 0);
        x.sheet(0, 2, 60);
        due("all cells", x.count(6), 60);
    }

    public static void main(String[] args) {
        sheetIsBad();
        sheetSizes();
        badAheadOfSize();
        sheetIsNew();
        everyCellIsNull();
        sheetRefusedStays();
        sheetsAreApart();
        layIsBad();
        layFaults();
        lowestBits();
        scanIsBad();
        scanFaultsInOrder();
        scanIndex();
        scanEveryNumber();
        scanTakesAllBack();
        scanOfWhatIsBad();
        scanMeetsTheFirst();
        scanCountsItsOwn();
        cellsOfTheFirst();
        Due.finish();
    }
}
