import java.util.Arrays;

/** A ball of twenty-four dances: its people, customs, cards, sheets, wishes and sets. */
public final class DanceCards {
    public static final int BAD = -1, STATE = -2, FULL = -3, NONE = -4;

    private static final int PEOPLE = 16, HIGHEST_RANK = 9, DANCES = 24;
    private static final int SITS = -5;

    private static final int PAIR = 0, RANK = 1, ROW = 2, SUPPER = 3, CUSTOMS = 4;

    private static final int BY_ILL = 1, BY_STRANGERS = 2, BY_FEUD = 3, BY_RANK = 4;
    private static final int BY_TAKEN = 5, BY_PAIR = 6, BY_ROW = 7, BY_SUPPER = 8;
    private static final int REFUSED = -10;

    private static final int SHEETS = 4, LANES = 3, CELLS = 60;
    private static final int ASKINGS = 20, ASKING_CELLS = 3;
    private static final int NULL_FAULT = 1, INDEX_FAULT = 2, CAST_FAULT = 3, SIZE_FAULT = 4;
    private static final int SCAN_FAULT = -20, SCAN_REFUSED = -30;

    private static final int MOST_WISHES = 4, LAID_DANCES = 64;

    private final Guests guests;
    private final Tape tape;
    private final Cards cards;
    private final Pairing pairing;
    private final Papers papers;
    private final Wishes wishes;
    private final Grouping grouping;

    public DanceCards() {
        guests = new Guests();
        tape = new Tape();
        cards = new Cards();
        pairing = new Pairing();
        papers = new Papers();
        wishes = new Wishes();
        grouping = new Grouping();
    }

    // ---- people

    public int person(boolean lady, int rank) {
        if (!isWithin(rank, 0, HIGHEST_RANK)) return BAD;
        if (guests.number >= PEOPLE) return FULL;
        return guests.welcome(lady, rank);
    }

    public int introduce(int by, int a, int b) {
        if (!areTwo(a, b) || by == a || by == b) return BAD;
        if (by != NONE && !guests.isThere(by)) return BAD;
        if (guests.areKnown(a, b)) return STATE;
        if (by != NONE && !(guests.areKnown(by, a) && guests.areKnown(by, b))) return STATE;
        guests.makeKnown(a, b);
        return 1;
    }

    public int feud(int a, int b, boolean on) {
        if (!areTwo(a, b)) return BAD;
        int before = toInt(guests.areAtFeud(a, b));
        guests.putAtFeud(a, b, on);
        return before;
    }

    public int knows(int a, int b) {
        if (!guests.isThere(a) || !guests.isThere(b)) return BAD;
        return toInt(guests.areKnown(a, b));
    }

    // ---- customs

    public int feed(long v) {
        return tape.takeEight(v);
    }

    public int end(int n) {
        return tape.keepFirst(n);
    }

    public int customs() {
        return tape.tellAll();
    }

    public int fault() {
        return tape.latestFault;
    }

    public int custom(int k) {
        return isWithin(k, 0, CUSTOMS - 1) ? tape.told[k] : BAD;
    }

    // ---- asking

    public int ask(int g, int l, int d) {
        if (!isAsking(g, l, d)) return BAD;
        int reason = reasonAgainst(g, l, d);
        if (reason != 0) return REFUSED - reason;
        cards.join(g, l, d);
        return 1;
    }

    public int why(int g, int l, int d) {
        return isAsking(g, l, d) ? reasonAgainst(g, l, d) : BAD;
    }

    public int refuse(int l, int g, int d) {
        if (!isAsking(g, l, d)) return BAD;
        int reason = reasonAgainst(g, l, d);
        if (reason != 0) return REFUSED - reason;
        cards.sitOut(l, d);
        return 1;
    }

    public int part(int g, int l, int d) {
        if (!isAsking(g, l, d)) return BAD;
        if (cards.entry(g, d) != l) return STATE;
        cards.separate(g, l, d);
        return 1;
    }

    public int swap(int g, int h, int d) {
        if (!guests.isGentleman(g) || !guests.isGentleman(h) || g == h || !isDance(d)) return BAD;
        if (!cards.isPaired(g, d) || !cards.isPaired(h, d)) return STATE;
        int ladyOfG = cards.entry(g, d);
        int ladyOfH = cards.entry(h, d);
        cards.separate(g, ladyOfG, d);
        cards.separate(h, ladyOfH, d);
        int reason = reasonAgainst(g, ladyOfH, d);
        if (reason == 0) reason = reasonAgainst(h, ladyOfG, d);
        cards.join(g, reason == 0 ? ladyOfH : ladyOfG, d);
        cards.join(h, reason == 0 ? ladyOfG : ladyOfH, d);
        return reason == 0 ? 1 : REFUSED - reason;
    }

    public int card(int p, int d) {
        return guests.isThere(p) && isDance(d) ? cards.entry(p, d) : BAD;
    }

    public int ill(int p) {
        if (!guests.isThere(p)) return BAD;
        if (guests.isIll(p)) return STATE;
        guests.makeIll(p, true);
        return cards.separateAll(p);
    }

    public int well(int p) {
        if (!guests.isThere(p)) return BAD;
        if (!guests.isIll(p)) return STATE;
        guests.makeIll(p, false);
        return 1;
    }

    public int could(int d) {
        if (!isDance(d)) return BAD;
        findPossiblePairs(d);
        return pairing.mostOfAll();
    }

    public int fill(int d) {
        if (!isDance(d)) return BAD;
        findPossiblePairs(d);
        pairing.chooseAll();
        int came = 0;
        for (int l = 0; l < PEOPLE; l++) {
            int g = pairing.chosen[l];
            if (g == NONE) continue;
            cards.join(g, l, d);
            came++;
        }
        return came;
    }

    public int about(int p, int what) {
        if (!guests.isThere(p)) return BAD;
        switch (what) {
            case 0: return cards.pairedDances(p);
            case 1: return cards.others(p);
            case 2: return cards.longestRow(p);
            case 3: return cards.sittings(p);
            default: return BAD;
        }
    }

    // ---- sheets

    public int sheet(int k, int lane, int n) {
        if (!isSheet(k) || !isLane(lane) || n > CELLS) return BAD;
        if (n < 0) return REFUSED - SIZE_FAULT;
        papers.renew(k, lane, n);
        return 1;
    }

    public int lay(int k, int i, int v) {
        if (!isSheet(k)) return BAD;
        if (!papers.isSomething(k)) return REFUSED - NULL_FAULT;
        if (!papers.hasCells(k, i, 1)) return REFUSED - INDEX_FAULT;
        papers.write(k, i, v);
        return 1;
    }

    public int scan(int k, int lane, int f, int n) {
        if (!isSheet(k) || !isLane(lane) || !isWithin(n, 0, ASKINGS)) return BAD;
        if (!papers.isSomething(k)) return SCAN_FAULT - NULL_FAULT;
        if (papers.lanes[k] != lane) return SCAN_FAULT - CAST_FAULT;
        for (int i = 0; i < n; i++) {
            // No overflow: past the first asking, f is known to be a cell of the sheet.
            int answer = askFromSheet(k, f + ASKING_CELLS * i);
            if (answer < 0) {
                takeBack(k, f, i);
                return answer;
            }
        }
        return n;
    }

    // ---- wishes, sets

    public int wish(int l, int g, int n) {
        if (!guests.isLady(l) || !guests.isGentleman(g) || !isWithin(n, 0, MOST_WISHES)) return BAD;
        return wishes.change(l, g, n);
    }

    public int fewest() {
        return wishes.mostOfOne();
    }

    public int laid(int p, int d) {
        if (!guests.isThere(p) || !isWithin(d, 0, LAID_DANCES - 1)) return BAD;
        return wishes.partnerIn(p, d);
    }

    public int sets(int d) {
        if (!isDance(d)) return BAD;
        return groupDance(d);
    }

    public int set(int p, int d) {
        if (!guests.isThere(p) || !isDance(d)) return BAD;
        groupDance(d);
        return grouping.groupOf(p);
    }

    public int count(int what) {
        switch (what) {
            case 0: return guests.number;
            case 1: return guests.ladies();
            case 2: return cards.couples();
            case 3: return tape.toldCustoms();
            case 4: return guests.illOnes();
            case 5: return guests.knownPairs();
            case 6: return papers.sizes[0];
            case 7: return tape.length;
            default: return BAD;
        }
    }

    // ---- what several calls share

    private static boolean isWithin(int n, int least, int most) {
        return n >= least && n <= most;
    }

    private static boolean isDance(int d) {
        return isWithin(d, 0, DANCES - 1);
    }

    private static boolean isSheet(int k) {
        return isWithin(k, 0, SHEETS - 1);
    }

    private static boolean isLane(int lane) {
        return isWithin(lane, 0, LANES - 1);
    }

    private static int toInt(boolean yes) {
        return yes ? 1 : 0;
    }

    private boolean areTwo(int a, int b) {
        return a != b && guests.isThere(a) && guests.isThere(b);
    }

    private boolean isAsking(int g, int l, int d) {
        return guests.isGentleman(g) && guests.isLady(l) && isDance(d);
    }

    /** WHY, for a gentleman, a lady and a dance that there are. */
    private int reasonAgainst(int g, int l, int d) {
        if (guests.isIll(g) || guests.isIll(l)) return BY_ILL;
        if (!guests.areKnown(g, l)) return BY_STRANGERS;
        if (guests.areAtFeud(g, l)) return BY_FEUD;
        if (tape.isTold(RANK) && guests.rankGap(g, l) > tape.told[RANK]) return BY_RANK;
        if (cards.isTaken(g, d) || cards.isTaken(l, d)) return BY_TAKEN;
        return customAgainst(g, l, d);
    }

    /** The part of WHY that looks at other dances; neither of the two is taken in this one. */
    private int customAgainst(int g, int l, int d) {
        int together = cards.together(g, l);
        int longerRow = Math.max(cards.rowThrough(g, d), cards.rowThrough(l, d));
        if (tape.isTold(PAIR) && together >= tape.told[PAIR]) return BY_PAIR;
        if (tape.isTold(ROW) && longerRow > tape.told[ROW]) return BY_ROW;
        if (tape.isTold(SUPPER) && d == tape.told[SUPPER] && together == 0) return BY_SUPPER;
        return 0;
    }

    private void findPossiblePairs(int d) {
        pairing.forget();
        for (int l = 0; l < PEOPLE; l++) {
            for (int g = 0; g < PEOPLE; g++) {
                if (isAsking(g, l, d) && reasonAgainst(g, l, d) == 0) pairing.allow(l, g);
            }
        }
    }

    /** One asking of a scan, from its first cell on: 1, or what the scan answers then. */
    private int askFromSheet(int k, int first) {
        if (!papers.hasCells(k, first, ASKING_CELLS)) return SCAN_FAULT - INDEX_FAULT;
        int g = papers.read(k, first);
        int l = papers.read(k, first + 1);
        int d = papers.read(k, first + 2);
        if (!isAsking(g, l, d)) return SCAN_REFUSED;
        int reason = reasonAgainst(g, l, d);
        if (reason != 0) return SCAN_REFUSED - reason;
        cards.join(g, l, d);
        return 1;
    }

    /** Undoes the first askings of a scan, all of which made a couple. */
    private void takeBack(int k, int f, int askings) {
        for (int i = 0; i < askings; i++) {
            int first = f + ASKING_CELLS * i;
            cards.separate(papers.read(k, first), papers.read(k, first + 1), papers.read(k, first + 2));
        }
    }

    /** Puts the couples of a dance into sets: how many sets. */
    private int groupDance(int d) {
        grouping.forget();
        for (int l = 0; l < guests.number; l++) {
            if (!guests.isLady(l) || !cards.isPaired(l, d)) continue;
            int g = cards.entry(l, d);
            grouping.addCouple(guests.bitsOf(l, g), guests.foesOf(l, g));
        }
        return grouping.group();
    }

    /** Who is at the ball, and how they stand to one another; numbers given in are of people there. */
    private static final class Guests {
        private int number;
        private final boolean[] lady = new boolean[PEOPLE];
        private final boolean[] sick = new boolean[PEOPLE];
        private final int[] ranks = new int[PEOPLE];
        /** By person, a bit for each one known, and for each foe. */
        private final int[] friends = new int[PEOPLE];
        private final int[] foes = new int[PEOPLE];

        private int welcome(boolean isLady, int rank) {
            lady[number] = isLady;
            ranks[number] = rank;
            number++;
            return number - 1;
        }

        private boolean isThere(int p) {
            return p >= 0 && p < number;
        }

        private boolean isLady(int p) {
            return isThere(p) && lady[p];
        }

        private boolean isGentleman(int p) {
            return isThere(p) && !lady[p];
        }

        private boolean isIll(int p) {
            return sick[p];
        }

        private void makeIll(int p, boolean on) {
            sick[p] = on;
        }

        private boolean areKnown(int a, int b) {
            return (friends[a] & 1 << b) != 0;
        }

        private void makeKnown(int a, int b) {
            friends[a] |= 1 << b;
            friends[b] |= 1 << a;
        }

        private boolean areAtFeud(int a, int b) {
            return (foes[a] & 1 << b) != 0;
        }

        private void putAtFeud(int a, int b, boolean on) {
            foes[a] &= ~(1 << b);
            foes[b] &= ~(1 << a);
            if (on) {
                foes[a] |= 1 << b;
                foes[b] |= 1 << a;
            }
        }

        private int rankGap(int a, int b) {
            return Math.abs(ranks[a] - ranks[b]);
        }

        private int bitsOf(int a, int b) {
            return 1 << a | 1 << b;
        }

        private int foesOf(int a, int b) {
            return foes[a] | foes[b];
        }

        private int ladies() {
            int sum = 0;
            for (int p = 0; p < number; p++) sum += toInt(lady[p]);
            return sum;
        }

        private int illOnes() {
            int sum = 0;
            for (int p = 0; p < number; p++) sum += toInt(sick[p]);
            return sum;
        }

        private int knownPairs() {
            int sum = 0;
            for (int p = 0; p < number; p++) sum += Integer.bitCount(friends[p]);
            // Each pair stands with both of its people.
            return sum / 2;
        }
    }

    /** The tape, the reading of it, and the customs that it told last without a fault. */
    private static final class Tape {
        private static final int ROOM = 100, FEED = 8, FIGURES = 3;
        private static final int END = 0, NAME = 1, NUMBER = 2, SEMICOLON = 3, WRONG = 4;
        private static final int WORD_FAULT = 1, PLACE_FAULT = 2, BOUND_FAULT = 3, TWICE_FAULT = 4;
        private static final int[] LEAST = {1, 0, 1, 0};
        private static final int[] MOST = {24, 9, 24, 23};

        private final byte[] bytes = new byte[ROOM];
        private int length;
        private int latestFault;
        /** By custom its number, or NONE. */
        private final int[] told = new int[CUSTOMS];
        /** What is being read: it counts only when the whole text has no fault. */
        private final int[] draft = new int[CUSTOMS];
        private int next;
        private int tokenKind;
        private int tokenPlace;
        /** Of a NAME the custom (NONE: no such one), of a NUMBER its value. */
        private int tokenValue;

        private Tape() {
            Arrays.fill(told, NONE);
        }

        private boolean isTold(int k) {
            return told[k] != NONE;
        }

        private int toldCustoms() {
            int sum = 0;
            for (int k = 0; k < CUSTOMS; k++) sum += toInt(isTold(k));
            return sum;
        }

        private int takeEight(long v) {
            if (length > ROOM - FEED) return FULL;
            for (int i = 0; i < FEED; i++) bytes[length + i] = (byte) (v >>> 8 * (FEED - 1 - i));
            length += FEED;
            return length;
        }

        private int keepFirst(int n) {
            if (!isWithin(n, 0, length)) return BAD;
            int before = length;
            length = n;
            return before;
        }

        private int tellAll() {
            Arrays.fill(draft, NONE);
            next = 0;
            latestFault = readText();
            length = 0;
            if (latestFault != 0) return REFUSED - tokenPlace;
            System.arraycopy(draft, 0, told, 0, CUSTOMS);
            return toldCustoms();
        }

        /** The fault, or 0; the place of a fault is that of the latest token. */
        private int readText() {
            // Each custom can be told once, so the one behind the last is a fault or the end.
            for (int i = 0; i <= CUSTOMS; i++) {
                readToken();
                if (tokenKind == END) return 0;
                int found = readCustom();
                if (found != 0) return found;
            }
            return TWICE_FAULT;
        }

        /** Reads a custom whose first token has been read: its fault, or 0. */
        private int readCustom() {
            int found = faultUnless(NAME);
            if (found != 0) return found;
            int k = tokenValue;
            if (draft[k] != NONE) return TWICE_FAULT;
            readToken();
            found = faultUnless(NUMBER);
            if (found != 0) return found;
            if (!isWithin(tokenValue, LEAST[k], MOST[k])) return BOUND_FAULT;
            draft[k] = tokenValue;
            readToken();
            return faultUnless(SEMICOLON);
        }

        private int faultUnless(int kind) {
            if (tokenKind == WRONG) return WORD_FAULT;
            return tokenKind == kind ? 0 : PLACE_FAULT;
        }

        private void readToken() {
            while (next < length && bytes[next] == ' ') next++;
            tokenPlace = next;
            if (next >= length) {
                tokenKind = END;
            } else if (isLetter(next)) {
                readName();
            } else if (isFigure(next)) {
                readNumber();
            } else {
                tokenKind = bytes[next] == ';' ? SEMICOLON : WRONG;
                next++;
            }
        }

        private void readName() {
            while (next < length && isLetter(next)) next++;
            tokenValue = NONE;
            for (int k = 0; k < CUSTOMS; k++) {
                if (isTokenText(nameOf(k))) tokenValue = k;
            }
            tokenKind = tokenValue == NONE ? WRONG : NAME;
        }

        private void readNumber() {
            tokenValue = 0;
            while (next < length && isFigure(next)) {
                // It may wrap around: a number so long is WRONG, and its value is not looked at.
                tokenValue = 10 * tokenValue + bytes[next] - '0';
                next++;
            }
            tokenKind = next - tokenPlace > FIGURES ? WRONG : NUMBER;
        }

        private boolean isLetter(int place) {
            return bytes[place] >= 'a' && bytes[place] <= 'z';
        }

        private boolean isFigure(int place) {
            return bytes[place] >= '0' && bytes[place] <= '9';
        }

        private boolean isTokenText(String text) {
            if (next - tokenPlace != text.length()) return false;
            for (int i = 0; i < text.length(); i++) {
                if (bytes[tokenPlace + i] != text.charAt(i)) return false;
            }
            return true;
        }

        private static String nameOf(int k) {
            switch (k) {
                case PAIR: return "pair";
                case RANK: return "rank";
                case ROW: return "row";
                default: return "supper";
            }
        }
    }

    /** Who is with whom in which dance; people and dances given in are such as there are. */
    private static final class Cards {
        /** By person and dance: the partner, NONE or SITS. */
        private final int[] entries = new int[PEOPLE * DANCES];

        private Cards() {
            Arrays.fill(entries, NONE);
        }

        private int entry(int p, int d) {
            return entries[p * DANCES + d];
        }

        private void enter(int p, int d, int value) {
            entries[p * DANCES + d] = value;
        }

        private boolean isPaired(int p, int d) {
            return entry(p, d) >= 0;
        }

        private boolean isTaken(int p, int d) {
            return entry(p, d) != NONE;
        }

        private void join(int g, int l, int d) {
            enter(g, d, l);
            enter(l, d, g);
        }

        private void separate(int g, int l, int d) {
            enter(g, d, NONE);
            enter(l, d, NONE);
        }

        private void sitOut(int l, int d) {
            enter(l, d, SITS);
        }

        private int separateAll(int p) {
            int parted = 0;
            for (int d = 0; d < DANCES; d++) {
                if (!isPaired(p, d)) continue;
                separate(p, entry(p, d), d);
                parted++;
            }
            return parted;
        }

        private int together(int a, int b) {
            int sum = 0;
            for (int d = 0; d < DANCES; d++) sum += toInt(entry(a, d) == b);
            return sum;
        }

        private int pairedDances(int p) {
            int sum = 0;
            for (int d = 0; d < DANCES; d++) sum += toInt(isPaired(p, d));
            return sum;
        }

        private int others(int p) {
            int met = 0;
            for (int d = 0; d < DANCES; d++) {
                if (isPaired(p, d)) met |= 1 << entry(p, d);
            }
            return Integer.bitCount(met);
        }

        private int longestRow(int p) {
            int longest = 0;
            int row = 0;
            for (int d = 0; d < DANCES; d++) {
                row = isPaired(p, d) ? row + 1 : 0;
                longest = Math.max(longest, row);
            }
            return longest;
        }

        private int sittings(int p) {
            int sum = 0;
            for (int d = 0; d < DANCES; d++) sum += toInt(entry(p, d) == SITS);
            return sum;
        }

        /** How long a row the dance would stand in, if one were of a couple in it. */
        private int rowThrough(int p, int d) {
            int first = d;
            while (first > 0 && isPaired(p, first - 1)) first--;
            int last = d;
            while (last < DANCES - 1 && isPaired(p, last + 1)) last++;
            return last - first + 1;
        }

        private int couples() {
            int paired = 0;
            for (int p = 0; p < PEOPLE; p++) paired += pairedDances(p);
            return paired / 2;
        }
    }

    /** The most couples that can be made of the pairs allowed, and which they are. */
    private static final class Pairing {
        private static final int ALL = (1 << PEOPLE) - 1;

        /** By lady, a bit for each gentleman who could be hers. */
        private final int[] allowed = new int[PEOPLE];
        /** By lady, the gentleman she gets, or NONE. */
        private final int[] chosen = new int[PEOPLE];
        /** By gentleman, the lady who holds him while the most is being sought. */
        private final int[] holder = new int[PEOPLE];
        /** Bits of the gentlemen whom the present search has not looked at. */
        private int untried;

        private void forget() {
            Arrays.fill(allowed, 0);
        }

        private void allow(int l, int g) {
            allowed[l] |= 1 << g;
        }

        private int mostOfAll() {
            return mostBehind(0, ALL);
        }

        /** The most couples of ladies from the first one on and of the free gentlemen. */
        private int mostBehind(int firstLady, int free) {
            Arrays.fill(holder, NONE);
            int found = 0;
            for (int l = firstLady; l < PEOPLE; l++) {
                untried = free;
                if (canHold(this, l, 0)) found++;
            }
            return found;
        }

        /** Whether the lady gets one, those who hold gentlemen moving to others where they can. */
        private static boolean canHold(Pairing pairing, int l, int depth) {
            if (depth >= PEOPLE) return false;
            for (int g = 0; g < PEOPLE; g++) {
                if ((pairing.allowed[l] & pairing.untried & 1 << g) == 0) continue;
                pairing.untried &= ~(1 << g);
                int rival = pairing.holder[g];
                if (rival == NONE || canHold(pairing, rival, depth + 1)) {
                    pairing.holder[g] = l;
                    return true;
                }
            }
            return false;
        }

        private void chooseAll() {
            int free = ALL;
            int missing = mostOfAll();
            for (int l = 0; l < PEOPLE; l++) {
                chosen[l] = leastFor(l, free, missing);
                if (chosen[l] == NONE) continue;
                free &= ~(1 << chosen[l]);
                missing--;
            }
        }

        /** The least gentleman with whom all the couples missing can still be had, or NONE. */
        private int leastFor(int l, int free, int missing) {
            for (int g = 0; g < PEOPLE; g++) {
                int bit = 1 << g;
                if ((allowed[l] & free & bit) == 0) continue;
                if (1 + mostBehind(l + 1, free & ~bit) == missing) return g;
            }
            return NONE;
        }
    }

    /** The sheets. One row of ints serves every lane, so that a new sheet makes no new object. */
    private static final class Papers {
        private static final int BYTES = 0, SHORTS = 1;

        private final int[] lanes = new int[SHEETS];
        /** By sheet how many cells it has; NONE: it is nothing. */
        private final int[] sizes = new int[SHEETS];
        private final int[] cells = new int[SHEETS * CELLS];

        private Papers() {
            Arrays.fill(sizes, NONE);
        }

        private boolean isSomething(int k) {
            return sizes[k] != NONE;
        }

        private void renew(int k, int lane, int n) {
            lanes[k] = lane;
            sizes[k] = n;
            for (int i = 0; i < CELLS; i++) cells[k * CELLS + i] = 0;
        }

        private boolean hasCells(int k, int first, int n) {
            // Not first + n, which could run over.
            return first >= 0 && first <= sizes[k] - n;
        }

        private int read(int k, int i) {
            return cells[k * CELLS + i];
        }

        private void write(int k, int i, int v) {
            cells[k * CELLS + i] = lowestBits(lanes[k], v);
        }

        private static int lowestBits(int lane, int v) {
            switch (lane) {
                case BYTES: return (byte) v;
                case SHORTS: return (short) v;
                default: return v;
            }
        }
    }

    /** Wishes, and the dances into which they are laid. */
    private static final class Wishes {
        /** By lady and gentleman. */
        private final int[] wanted = new int[PEOPLE * PEOPLE];
        /** By person and dance the partner, or NONE; right only if it is fresh. */
        private final int[] plan = new int[PEOPLE * LAID_DANCES];
        private boolean isFresh;

        private int change(int l, int g, int n) {
            int before = wanted[l * PEOPLE + g];
            wanted[l * PEOPLE + g] = n;
            isFresh = false;
            return before;
        }

        private int mostOfOne() {
            int most = 0;
            for (int p = 0; p < PEOPLE; p++) most = Math.max(most, ofOne(p));
            return most;
        }

        private int ofOne(int p) {
            int sum = 0;
            // One is a lady or a gentleman, so only one of the two numbers can be other than 0.
            for (int q = 0; q < PEOPLE; q++) sum += wanted[p * PEOPLE + q] + wanted[q * PEOPLE + p];
            return sum;
        }

        private int partnerIn(int p, int d) {
            if (!isFresh) planAll();
            return planned(p, d);
        }

        private void planAll() {
            Arrays.fill(plan, NONE);
            for (int l = 0; l < PEOPLE; l++) {
                for (int g = 0; g < PEOPLE; g++) {
                    for (int i = 0; i < wanted[l * PEOPLE + g]; i++) planOne(l, g);
                }
            }
            isFresh = true;
        }

        private void planOne(int l, int g) {
            int a = leastFree(l);
            int b = leastFree(g);
            if (a == NONE || b == NONE) return;
            if (a != b) changeRow(g, a, b);
            enter(l, a, g);
            enter(g, a, l);
        }

        private int leastFree(int p) {
            for (int d = 0; d < LAID_DANCES; d++) {
                if (planned(p, d) == NONE) return d;
            }
            return NONE;
        }

        /** Frees the gentleman in a: he is free in b, so the row has an end and meets each one once. */
        private void changeRow(int g, int a, int b) {
            int p = g;
            for (int i = 0; i < PEOPLE && p != NONE; i++) {
                int inA = planned(p, a);
                int inB = planned(p, b);
                enter(p, a, inB);
                enter(p, b, inA);
                p = i % 2 == 0 ? inA : inB;
            }
        }

        private int planned(int p, int d) {
            return plan[p * LAID_DANCES + d];
        }

        private void enter(int p, int d, int value) {
            plan[p * LAID_DANCES + d] = value;
        }
    }

    /** The couples of one dance, put into sets. */
    private static final class Grouping {
        private static final int COUPLES = PEOPLE / 2, ROOM = 4;

        private int number;
        /** By couple, bits of its two people, and of all their foes. */
        private final int[] people = new int[COUPLES];
        private final int[] foes = new int[COUPLES];
        /** By couple its set. */
        private final int[] placed = new int[COUPLES];
        /** By set how many couples it has, and bits of its people. */
        private final int[] sizes = new int[COUPLES];
        private final int[] members = new int[COUPLES];

        private void forget() {
            number = 0;
        }

        private void addCouple(int itsPeople, int itsFoes) {
            if (number >= COUPLES) return;
            people[number] = itsPeople;
            foes[number] = itsFoes;
            number++;
        }

        /** The fewest sets; each couple for itself always fits into one of its own. */
        private int group() {
            for (int limit = 0; limit < number; limit++) {
                Arrays.fill(sizes, 0);
                Arrays.fill(members, 0);
                if (canPlace(this, 0, limit)) return limit;
            }
            for (int i = 0; i < number; i++) placed[i] = i;
            return number;
        }

        /** Whether the couples from i on fit into the sets; the least sets are tried first. */
        private static boolean canPlace(Grouping grouping, int i, int limit) {
            if (i >= grouping.number) return true;
            for (int s = 0; s < limit; s++) {
                if (!grouping.isOpenFor(s, i)) continue;
                grouping.sizes[s]++;
                grouping.members[s] |= grouping.people[i];
                grouping.placed[i] = s;
                if (canPlace(grouping, i + 1, limit)) return true;
                grouping.sizes[s]--;
                grouping.members[s] &= ~grouping.people[i];
                // All sets behind an empty one are empty, too: they are no better.
                if (grouping.sizes[s] == 0) return false;
            }
            return false;
        }

        private boolean isOpenFor(int s, int i) {
            return sizes[s] < ROOM && (members[s] & foes[i]) == 0;
        }

        private int groupOf(int p) {
            for (int i = 0; i < number; i++) {
                if ((people[i] & 1 << p) != 0) return placed[i];
            }
            return NONE;
        }
    }
}
