/** Promises 6 to 10 at their edges. Each method tests the sentence of the document that stands above it. */
public final class CustomsEdgeTest {
    private static final int BAD = DanceCards.BAD, FULL = DanceCards.FULL, NONE = DanceCards.NONE;
    private static final String[] NAMES = {"pair", "rank", "row", "supper"};
    private static final int[] LEAST = {1, 0, 1, 0}, MOST = {24, 9, 24, 23};
    private static final int NO_WORD = 1, NO_PLACE = 2, NO_BOUND = 3, TWICE = 4;

    private static void due(String call, long got, long want) {
        Due.due(call, got, want);
    }

    private static String blanks(int n) {
        return " ".repeat(n);
    }

    /** The text tells so many customs, on a ball of its own. */
    private static DanceCards dueTold(String text, int number) {
        DanceCards x = new DanceCards();
        due("customs '" + text + "'", Due.tell(x, text), number);
        due("fault of '" + text + "'", x.fault(), 0);
        due("customs told by '" + text + "'", x.count(3), number);
        due("tape behind '" + text + "'", x.count(7), 0);
        return x;
    }

    /** The text has a fault at a place, and tells nothing, on a ball of its own. */
    private static void dueFault(String text, int place, int fault) {
        DanceCards x = new DanceCards();
        due("customs '" + text + "'", Due.tell(x, text), -10 - place);
        due("fault of '" + text + "'", x.fault(), fault);
        due("customs told by '" + text + "'", x.count(3), 0);
        due("tape behind '" + text + "'", x.count(7), 0);
    }

    /** "feed: Eight bytes come behind THE TAPE: how many it has." */
    private static void feedTellsHowMany() {
        DanceCards x = new DanceCards();
        for (int i = 1; i <= 12; i++) {
            due("feed", x.feed(-1L), 8 * i);
            due("bytes", x.count(7), 8 * i);
        }
    }

    /** "feed: FULL: more than 100": every length that there can be */
    private static void feedIsFullAboveHundred() {
        for (int length = 0; length <= 96; length++) {
            DanceCards x = new DanceCards();
            Due.type(x, blanks(length));
            due("feed behind " + length, x.feed(0x2020202020202020L), length <= 92 ? length + 8 : FULL);
            due("bytes then", x.count(7), length <= 92 ? length + 8 : length);
        }
        for (int length = 93; length <= 100; length++) {
            DanceCards x = new DanceCards();
            Due.type(x, blanks(92));
            x.feed(0x2020202020202020L);
            x.end(length);
            due("feed behind " + length, x.feed(0), FULL);
            due("bytes still", x.count(7), length);
        }
    }

    /** "what is refused changes nothing": a FULL feed leaves no byte behind. */
    private static void fullFeedLeavesTheTape() {
        DanceCards x = new DanceCards();
        Due.type(x, "pair 3; " + blanks(88));
        due("a fault that does not come", x.feed(-1L), FULL);
        due("end, the same", x.end(96), 96);
        due("customs", x.customs(), 1);
        due("pair", x.custom(0), 3);
    }

    /** "feed: the highest first": every byte at its place */
    private static void highestByteFirst() {
        for (int place = 0; place < 8; place++) {
            DanceCards x = new DanceCards();
            x.feed(0x2020202020202020L ^ 0x20L << 56 - 8 * place);
            due("a byte 0 at " + place, x.customs(), -10 - place);
            due("its fault", x.fault(), NO_WORD);
        }
        DanceCards x = new DanceCards();
        x.feed(0x7061697220313233L);
        x.end(7);
        x.feed(0x3b20726f77203237L);
        x.feed(0x3bL << 56);
        x.end(16);
        due("'pair 12', '; row 27', ';' next to one another", x.customs(), -23);
        due("the number of two feeds' bytes", x.fault(), NO_BOUND);
    }

    /** "end: THE TAPE keeps its first n bytes: how many it had." */
    private static void endKeepsTheFirst() {
        String text = "row 1 2; ";
        for (int n = 0; n <= text.length(); n++) {
            DanceCards x = new DanceCards();
            Due.type(x, text);
            due("end(" + n + ")", x.end(n), text.length());
            due("bytes", x.count(7), n);
            due("end again", x.end(n), n);
            int answer = n == 0 ? 0 : n < 3 ? -10 : n < 7 ? -10 - n : -16;
            due("customs of the first " + n, x.customs(), answer);
        }
    }

    /** "end: BAD": below 0, and more than it has */
    private static void endIsBadOutside() {
        for (int length : new int[] {0, 1, 8, 99, 100}) {
            DanceCards x = new DanceCards();
            for (int i = 0; i < 11; i++) x.feed(0);
            x.end(84);
            x.feed(0);
            x.feed(0);
            x.end(length);
            Due.dueBadOutside("end of " + length, 0, length, x::end);
            due("bytes still", x.count(7), length);
            due("end at the edge", x.end(length), length);
            due("end at the other edge", x.end(0), length);
        }
    }

    /** What end took off does not come back. */
    private static void feedBehindAnEnd() {
        DanceCards x = new DanceCards();
        Due.type(x, "pair 3; supper 4");
        x.end(8);
        due("feed", x.feed(0x726f7720353b2020L), 16);
        due("customs", x.customs(), 2);
        Due.dueRow("custom", x::custom, 3, NONE, 5, NONE);
    }

    /** "customs: THE TAPE (empty then)": told or with a FAULT; nothing of it is read again. */
    private static void tapeIsEmptyThen() {
        DanceCards x = new DanceCards();
        Due.type(x, "pair 3;");
        x.customs();
        due("behind what is told", x.count(7), 0);
        due("end of nothing", x.end(1), BAD);
        due("nothing tells nothing", x.customs(), 0);
        due("pair", x.custom(0), NONE);
        Due.type(x, "row 4; pair");
        due("the end", x.customs(), -21);
        due("behind a fault", x.count(7), 0);
        due("feed begins at 0", x.feed(0x726f7720353b2020L), 8);
        due("customs", x.customs(), 1);
    }

    /** "text: { custom }": none at all */
    private static void emptyTextTellsNone() {
        dueTold("", 0);
        dueTold(" ", 0);
        dueTold(blanks(100), 0);
        DanceCards x = new DanceCards();
        Due.tell(x, "pair 1;rank 1;row 1;supper 1;");
        due("an empty text tells all customs: none", x.customs(), 0);
        Due.dueRow("custom", x::custom, NONE, NONE, NONE, NONE);
    }

    /** "customs: tells all customs: how many": what it does not tell is told no more. */
    private static void everyChoiceOfCustoms() {
        DanceCards x = new DanceCards();
        for (int choice = 0; choice < 16; choice++) {
            StringBuilder text = new StringBuilder();
            for (int k = 3; k >= 0; k--) if ((choice >> k & 1) == 1) text.append(NAMES[k]).append(choice % 9 + 1).append(';');
            due("customs '" + text + "'", Due.tell(x, text.toString()), Integer.bitCount(choice));
            due("customs told", x.count(3), Integer.bitCount(choice));
            for (int k = 0; k < 4; k++) due("custom", x.custom(k), (choice >> k & 1) == 1 ? choice % 9 + 1 : NONE);
        }
    }

    /** "customs: -10 less the place of its FAULT: those that were told stay." */
    private static void toldOnesStayBehindAFault() {
        String[] faulty = {"pair 9; row 9; $", "pair 9", "pair 9; rank 10;", "pair 9; pair 8;", ";", "pears"};
        for (String text : faulty) {
            DanceCards x = new DanceCards();
            Due.tell(x, "pair 5; supper 0;");
            due("a fault in '" + text + "'", Due.tell(x, text) <= -10 ? 1 : 0, 1);
            Due.dueRow("custom behind '" + text + "'", x::custom, 5, NONE, NONE, 0);
            due("customs told", x.count(3), 2);
        }
    }

    /** "fault: The FAULT of the latest customs(); 0." */
    private static void faultIsOfTheLatest() {
        DanceCards x = new DanceCards();
        due("ahead of the first", x.fault(), 0);
        Due.tell(x, "pair 1; pair 2;");
        due("twice", x.fault(), TWICE);
        due("asked again", x.fault(), TWICE);
        Due.type(x, "row 3;");
        due("a new tape is not read yet", x.fault(), TWICE);
        x.customs();
        due("none", x.fault(), 0);
        Due.tell(x, "row 0;");
        due("bounds", x.fault(), NO_BOUND);
        Due.tell(x, "!");
        due("another", x.fault(), NO_WORD);
        x.customs();
        due("of an empty tape", x.fault(), 0);
    }

    /** "pair: 1 to 24; rank: 0 to 9; row: 1 to 24; supper: 0 to 23"; "3 a NUMBER out of its bounds" */
    private static void everyNumber() {
        for (int k = 0; k < 4; k++) {
            String name = NAMES[k];
            for (int n = 0; n <= 999; n++) {
                boolean fits = n >= LEAST[k] && n <= MOST[k];
                if (!fits) dueFault(name + " " + n + ";", name.length() + 1, NO_BOUND);
                if (fits) due(name, dueTold(name + " " + n + ";", 1).custom(k), n);
            }
        }
    }

    /** "NUMBERS (1 to 3 figures)"; "1 .. a NUMBER that is too long (its first byte)" */
    private static void figuresOfANumber() {
        for (int k = 0; k < 4; k++) {
            String name = NAMES[k];
            due("one figure", dueTold(name + " 7;", 1).custom(k), 7);
            due("two figures", dueTold(name + " 07;", 1).custom(k), 7);
            due("three figures", dueTold(name + " 007;", 1).custom(k), 7);
            dueFault(name + " 0007;", name.length() + 1, NO_WORD);
            dueFault(name + " 0000;", name.length() + 1, NO_WORD);
            dueFault(name + "1000", name.length(), NO_WORD);
            dueFault(name + "  4294967303;", name.length() + 2, NO_WORD);
            dueFault(name + " " + "0".repeat(80) + "7;", name.length() + 1, NO_WORD);
        }
        due("000 of a rank", dueTold("rank 000;", 1).custom(1), 0);
        due("024 of a pair", dueTold("pair 024;", 1).custom(0), 24);
        dueFault("pair 000;", 5, NO_BOUND);
        dueFault("pair 025;", 5, NO_BOUND);
    }

    /** "NAMES (a .. z)", "each as long as may be"; "1 .. a NAME that is none of these" */
    private static void lettersOfAName() {
        String[] wrong = {"p", "pai", "pairs", "pairrow", "ppair", "ran", "ranks", "ro", "rows", "rrow", "suppe", "suppers",
            "super", "a", "z", "zzzz", "riap", "paer"};
        for (String name : wrong) {
            dueFault(name + " 1;", 0, NO_WORD);
            dueFault(name + "1;", 0, NO_WORD);
            dueFault("  " + name, 2, NO_WORD);
        }
        for (String name : NAMES) {
            dueTold(name + "1;", 1);
            dueFault(name.toUpperCase() + " 1;", 0, NO_WORD);
            dueFault(name.substring(0, 2) + " " + name.substring(2) + " 1;", 0, NO_WORD);
        }
        dueFault("a".repeat(100), 0, NO_WORD);
        dueFault("pAir 1;", 0, NO_WORD);
        dueFault("pair rowS;", 5, NO_PLACE);
    }

    /** A NAME with one letter that is another, wherever it stands, is none of these. */
    private static void everyLetterCounts() {
        for (String name : NAMES) {
            for (int i = 0; i < name.length(); i++) {
                for (char c = 'a'; c <= 'z'; c++) {
                    if (c == name.charAt(i)) continue;
                    dueFault(name.substring(0, i) + c + name.substring(i + 1) + " 1;", 0, NO_WORD);
                }
            }
        }
    }

    /** "blanks (32) between", as many as there are, or none where TOKENS part without them */
    private static void blanksBetween() {
        due("no blanks", dueTold("pair2;rank3;row4;supper5;", 4).custom(3), 5);
        due("many blanks", dueTold(blanks(9) + "pair" + blanks(20) + "2" + blanks(30) + ";" + blanks(34), 1).custom(0), 2);
        dueFault("pair 1 2;", 7, NO_PLACE);
        dueFault("pair 1 2", 7, NO_PLACE);
        dueFault("row 2 ; ; ", 8, NO_PLACE);
    }

    private static boolean isLetter(int b) {
        return b >= 'a' && b <= 'z';
    }

    private static boolean isFigure(int b) {
        return b >= '0' && b <= '9';
    }

    /** "TOKENS": every byte alone; "1 no TOKEN" */
    private static void everyByteAlone() {
        for (int b = 0; b < 256; b++) {
            String text = String.valueOf((char) b);
            if (b == ' ') dueTold(text, 0);
            else dueFault(text, 0, isFigure(b) || b == ';' ? NO_PLACE : NO_WORD);
        }
    }

    /** Every byte behind a NAME, behind a NUMBER and behind a ; */
    private static void everyByteBehindAToken() {
        for (int b = 0; b < 256; b++) {
            char c = (char) b;
            if (b == ' ') {
                dueTold("row" + c + "1;", 1);
                dueTold("row1" + c + ";", 1);
                dueTold("row1;" + c + "pair 1;", 2);
                continue;
            }
            boolean isToken = isFigure(b) || b == ';';
            if (isLetter(b)) dueFault("row" + c + "1;", 0, NO_WORD);
            else if (b == ';') dueFault("row" + c + "1;", 3, NO_PLACE);
            else if (b > '2' && b <= '9') dueFault("row" + c + "1;", 3, NO_BOUND);
            else if (isFigure(b)) dueTold("row" + c + "1;", 1);
            else dueFault("row" + c + "1;", 3, NO_WORD);
            if (b == ';') dueTold("row1" + c, 1);
            else if (isFigure(b)) dueFault("row1" + c, 5, NO_PLACE);
            else dueFault("row1" + c, 4, NO_WORD);
            dueFault("row1;" + c, 5, isToken ? NO_PLACE : NO_WORD);
        }
    }

    /** "2 a TOKEN that can not stand there": every other TOKEN at every place of a custom */
    private static void wrongTokenAtEveryPlace() {
        for (String name : NAMES) {
            int n = name.length();
            dueFault("1" + name, 0, NO_PLACE);
            dueFault(";" + name, 0, NO_PLACE);
            dueFault(name + ";", n, NO_PLACE);
            for (String other : NAMES) {
                dueFault(name + " " + other + " 1;", n + 1, NO_PLACE);
                dueFault(name + " 1 " + other + " 1;", n + 3, NO_PLACE);
            }
            dueFault(name + " 1 1;", n + 3, NO_PLACE);
            dueFault(name + " 1;;", n + 3, NO_PLACE);
            dueFault(name + " 1; 1;", n + 4, NO_PLACE);
        }
    }

    /** "2 .. (or the end: the length)", behind a NAME and behind a NUMBER, with blanks and without */
    private static void endAtEveryPlace() {
        for (String name : NAMES) {
            for (int behind = 0; behind < 3; behind++) {
                String text = name + blanks(behind);
                dueFault(text, text.length(), NO_PLACE);
                text = name + " 1" + blanks(behind);
                dueFault(text, text.length(), NO_PLACE);
                dueTold(name + " 1;" + blanks(behind), 1);
            }
        }
        dueFault(blanks(96) + "pair", 100, NO_PLACE);
        dueFault("pair" + blanks(96), 100, NO_PLACE);
        dueFault(blanks(94) + "pair 1", 100, NO_PLACE);
        dueTold(blanks(93) + "pair 1;", 1);
    }

    /** "places from 0": a FAULT at every place, 99 the last one */
    private static void faultAtEveryPlace() {
        for (int place = 0; place < 100; place++) {
            dueFault(blanks(place) + "?", place, NO_WORD);
            dueFault(blanks(place) + "?" + blanks(99 - place), place, NO_WORD);
        }
    }

    /** "4 a custom that is told already (its NAME)" */
    private static void toldTwice() {
        for (String name : NAMES) {
            dueFault(name + " 1;" + name + " 1;", name.length() + 3, TWICE);
            dueFault(name + " 1; " + name, name.length() + 4, TWICE);
            for (String other : NAMES) {
                if (other.equals(name)) continue;
                String text = name + " 1;" + other + " 2;";
                dueFault(text + name + " 3;", text.length(), TWICE);
                dueFault(text + other + " 3;", text.length(), TWICE);
            }
        }
        dueFault("pair 1;rank 1;row 1;supper 1;rank 1;", 29, TWICE);
        dueTold("pair 1;rank 1;row 1;supper 1;", 4);
    }

    /** A custom that an earlier TAPE told, or one with a FAULT, is not told already. */
    private static void toldByAnEarlierTape() {
        DanceCards x = new DanceCards();
        for (int n = 1; n <= 9; n++) {
            due("pair " + n, Due.tell(x, "pair " + n + ";"), 1);
            due("custom", x.custom(0), n);
        }
        due("a fault behind a row", Due.tell(x, "row 2; ;"), -17);
        due("row", Due.tell(x, "row 3;"), 1);
        due("custom", x.custom(2), 3);
        due("pair is told no more", x.custom(0), NONE);
    }

    /** "the first met as it is read (a TOKEN is read when the one before has been taken)" */
    private static void firstFaultIsMet() {
        dueFault("pair 25 ?", 5, NO_BOUND);
        dueFault("pair 25 7777", 5, NO_BOUND);
        dueFault("pair 25", 5, NO_BOUND);
        dueFault("pair 1; pair ?", 8, TWICE);
        dueFault("pair ; ?", 5, NO_PLACE);
        dueFault("? pair", 0, NO_WORD);
        dueFault("pair 1 ? rank 99", 7, NO_WORD);
        dueFault("pair 1; 1 pair", 8, NO_PLACE);
        dueFault("rank 10; pair 0; ?", 5, NO_BOUND);
        dueFault("1111 ?", 0, NO_WORD);
        dueFault("pair 1; 1111", 8, NO_WORD);
        dueFault("pair 1 1111", 7, NO_WORD);
    }

    /** "custom: BAD; NONE: it is not told": 0 to 3, told with 0 or not told */
    private static void customAtItsEdges() {
        DanceCards x = new DanceCards();
        Due.dueBadOutside("custom of none told", 0, 3, x::custom);
        Due.dueRow("none told", x::custom, NONE, NONE, NONE, NONE);
        Due.tell(x, "supper 0; rank 0;");
        Due.dueRow("two told with 0", x::custom, NONE, 0, NONE, 0);
        Due.tell(x, "pair 24; row 24; supper 23; rank 9;");
        Due.dueRow("the greatest", x::custom, 24, 9, 24, 23);
        Due.dueBadOutside("custom of all told", 0, 3, x::custom);
    }

    public static void main(String[] args) {
        feedTellsHowMany();
        feedIsFullAboveHundred();
        fullFeedLeavesTheTape();
        highestByteFirst();
        endKeepsTheFirst();
        endIsBadOutside();
        feedBehindAnEnd();
        tapeIsEmptyThen();
        emptyTextTellsNone();
        everyChoiceOfCustoms();
        toldOnesStayBehindAFault();
        faultIsOfTheLatest();
        everyNumber();
        figuresOfANumber();
        lettersOfAName();
        everyLetterCounts();
        blanksBetween();
        everyByteAlone();
        everyByteBehindAToken();
        wrongTokenAtEveryPlace();
        endAtEveryPlace();
        faultAtEveryPlace();
        toldTwice();
        toldByAnEarlierTape();
        firstFaultIsMet();
        customAtItsEdges();
        Due.finish();
    }
}
