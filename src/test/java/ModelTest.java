import java.util.Random;

/** Random runs of calls (always the same ones): the class must answer what the naive ball answers. */
public final class ModelTest {
    /** What an object answers behind its 512th call is free, so no run goes on for longer. */
    private static final int RUNS = 1500, CALLS = 512;
    private static final int MOST_OF_A_STEP = 24;
    private static final int[] EDGES = {-5, -4, -1, 16, 24, 60, 61, 64, Integer.MIN_VALUE, Integer.MAX_VALUE};
    private static final String[] WORDS = {"pair", "rank", "row", "supper", "pears", "0", "1", "2", "3", "9", "10",
        "23", "24", "25", "0007", ";", ";", ";", " ", "  ", "-", "\u0000", "\u00e4", "P"};

    private final Random random;
    private DanceCards real;
    private NaiveBall naive;
    private int run;
    private int calls;
    /** Few people and few dances make full cards. */
    private int dances;
    private int oddity;
    /** No call tells it, so it is kept here. */
    private final boolean[] ladies = new boolean[16];

    private ModelTest(long seed) {
        random = new Random(seed);
    }

    private int below(int n) {
        return random.nextInt(n);
    }

    private boolean isOdd() {
        return below(100) < oddity;
    }

    private int near(int n) {
        return isOdd() ? EDGES[below(EDGES.length)] : below(Math.max(1, n));
    }

    private int someone() {
        return near(naive.count(0));
    }

    private int oneOf(boolean lady) {
        int p = someone();
        for (int i = 0; i < 20 && !isOdd(); i++) {
            if (isLady(p) == lady) return p;
            p = someone();
        }
        return p;
    }

    private boolean isLady(int p) {
        return p >= 0 && p < 16 && ladies[p];
    }

    private int dance() {
        return near(dances);
    }

    private void same(String call, int got, int want) {
        calls++;
        Due.due("run " + run + ": " + call, got, want);
    }

    private void doPerson() {
        boolean lady = random.nextBoolean();
        int rank = isOdd() ? near(12) : below(3) * 2;
        int want = naive.person(lady, rank);
        if (want >= 0) ladies[want] = lady;
        same("person", real.person(lady, rank), want);
    }

    private void doIntroduce() {
        int by = below(4) == 0 ? someone() : DanceCards.NONE;
        int a = someone();
        int b = someone();
        same("introduce " + by + " " + a + " " + b, real.introduce(by, a, b), naive.introduce(by, a, b));
    }

    private void doFeud() {
        int a = someone();
        int b = someone();
        boolean on = below(3) == 0;
        same("feud " + a + " " + b, real.feud(a, b, on), naive.feud(a, b, on));
    }

    private String text() {
        StringBuilder text = new StringBuilder();
        if (below(3) == 0) {
            for (int i = below(12); i >= 0; i--) text.append(WORDS[below(WORDS.length)]).append(below(2) == 0 ? " " : "");
            return text.toString();
        }
        String[] customs = {"pair " + (1 + below(4)), "rank " + below(6), "row " + (1 + below(5)), "supper " + below(dances)};
        for (int k = 0; k < 4; k++) if (below(2) == 0) text.append(customs[k]).append("; ");
        return text.toString();
    }

    private void doCustoms() {
        String text = text();
        for (int i = 0; i < text.length(); i += 8) {
            long v = Due.eight(text, i);
            same("feed", real.feed(v), naive.feed(v));
        }
        int n = isOdd() ? near(100) : naive.count(7);
        same("end " + n, real.end(n), naive.end(n));
        if (below(6) == 0) return;
        same("customs '" + text + "'", real.customs(), naive.customs());
        same("fault", real.fault(), naive.fault());
        int k = near(4);
        same("custom " + k, real.custom(k), naive.custom(k));
    }

    private void doAsking() {
        int g = oneOf(false);
        int l = oneOf(true);
        int d = dance();
        String told = " " + g + " " + l + " " + d;
        switch (below(7)) {
            case 0: same("why" + told, real.why(g, l, d), naive.why(g, l, d)); break;
            case 1: same("part" + told, real.part(g, l, d), naive.part(g, l, d)); break;
            case 2:
                if (below(3) == 0) same("refuse" + told, real.refuse(l, g, d), naive.refuse(l, g, d));
                break;
            case 3: {
                int h = oneOf(false);
                same("swap" + told + " " + h, real.swap(g, h, d), naive.swap(g, h, d));
                break;
            }
            default: same("ask" + told, real.ask(g, l, d), naive.ask(g, l, d)); break;
        }
    }

    private void doOne() {
        int p = someone();
        int d = dance();
        int what = near(4);
        switch (below(6)) {
            case 0: same("knows", real.knows(p, what), naive.knows(p, what)); break;
            case 1: same("card", real.card(p, d), naive.card(p, d)); break;
            case 2:
                if (below(3) == 0) same("ill", real.ill(p), naive.ill(p));
                break;
            case 3: same("well", real.well(p), naive.well(p)); break;
            default: same("about", real.about(p, what), naive.about(p, what)); break;
        }
    }

    private void doDance() {
        int d = dance();
        int p = someone();
        switch (below(5)) {
            case 0: same("could " + d, real.could(d), naive.could(d)); break;
            case 1: same("fill " + d, real.fill(d), naive.fill(d)); break;
            case 2: same("sets " + d, real.sets(d), naive.sets(d)); break;
            default: same("set " + p + " " + d, real.set(p, d), naive.set(p, d)); break;
        }
    }

    private void doSheet() {
        int k = isOdd() ? near(4) : below(2);
        int lane = near(3);
        int n = below(3) == 0 ? near(60) : 9;
        same("sheet", real.sheet(k, lane, n), naive.sheet(k, lane, n));
    }

    private void doLay() {
        int k = isOdd() ? near(4) : below(2);
        int first = 3 * below(3);
        int[] values = {oneOf(false), oneOf(true), dance()};
        for (int i = 0; i < 3; i++) {
            int cell = isOdd() ? near(60) : first + i;
            int v = values[i] + (isOdd() ? 256 : 0);
            same("lay", real.lay(k, cell, v), naive.lay(k, cell, v));
        }
    }

    private void doScan() {
        int k = isOdd() ? near(4) : below(2);
        int lane = near(3);
        int f = isOdd() ? near(60) : 3 * below(3);
        int n = isOdd() ? near(22) : below(4);
        same("scan " + k + " " + lane + " " + f + " " + n, real.scan(k, lane, f, n), naive.scan(k, lane, f, n));
    }

    private void doWish() {
        int l = oneOf(true);
        int g = oneOf(false);
        int n = near(5);
        int p = someone();
        int d = isOdd() ? near(64) : below(10);
        same("wish", real.wish(l, g, n), naive.wish(l, g, n));
        same("fewest", real.fewest(), naive.fewest());
        same("laid " + p + " " + d, real.laid(p, d), naive.laid(p, d));
    }

    private void step() {
        switch (below(14)) {
            case 0: doPerson(); break;
            case 1:
            case 2: doIntroduce(); break;
            case 3: if (below(2) == 0) doFeud(); break;
            case 4: if (below(4) == 0) doCustoms(); break;
            case 5:
            case 6:
            case 7: doAsking(); break;
            case 8: doOne(); break;
            case 9: doDance(); break;
            case 10: if (below(3) == 0) doSheet(); else doLay(); break;
            case 11: doScan(); break;
            case 12: doWish(); break;
            default: {
                int what = near(8);
                same("count " + what, real.count(what), naive.count(what));
            }
        }
    }

    /** Of all that can be asked, as much as there are calls left for, from a chance place on. */
    private void compareRest() {
        int people = naive.count(0);
        int first = below(1000);
        for (int i = 0; calls < CALLS; i++) {
            int p = people == 0 ? 0 : (first + i) % people;
            int d = (first + i / 7) % 24;
            switch (i % 7) {
                case 0: same("card " + p + " " + d, real.card(p, d), naive.card(p, d)); break;
                case 1: same("set " + p + " " + d, real.set(p, d), naive.set(p, d)); break;
                case 2: same("laid " + p + " " + d, real.laid(p, d), naive.laid(p, d)); break;
                case 3: same("about " + p, real.about(p, d % 4), naive.about(p, d % 4)); break;
                case 4: same("could " + d, real.could(d), naive.could(d)); break;
                case 5: same("sets " + d, real.sets(d), naive.sets(d)); break;
                default: same("count " + d % 8, real.count(d % 8), naive.count(d % 8)); break;
            }
        }
    }

    private void doRun(int number) {
        run = number;
        calls = 0;
        real = new DanceCards();
        naive = new NaiveBall();
        dances = 1 + below(24);
        oddity = below(3) * 4;
        int first = below(17);
        for (int i = 0; i < first; i++) doPerson();
        int introductions = below(120);
        for (int i = 0; i < introductions; i++) doIntroduce();
        int steps = calls + below(CALLS - MOST_OF_A_STEP - calls);
        while (calls < steps) step();
        compareRest();
    }

    public static void main(String[] args) {
        ModelTest test = new ModelTest(20261116L);
        for (int i = 1; i <= RUNS; i++) test.doRun(i);
        Due.finish();
    }
}
