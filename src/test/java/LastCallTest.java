/** "An object is used for at most 512 calls": the 512th answers as the first did, however dear the calls ahead of it. */
public final class LastCallTest {
    private static final int CALLS = 512;

    private static void due(String call, long got, long want) {
        Due.due(call, got, want);
    }

    /** The same question 512 times. */
    private static void questionsOfANewBall() {
        DanceCards fewest = new DanceCards();
        DanceCards customs = new DanceCards();
        DanceCards could = new DanceCards();
        DanceCards sheets = new DanceCards();
        for (int i = 0; i < CALLS; i++) {
            due("fewest", fewest.fewest(), 0);
            due("customs", customs.customs(), 0);
            due("could", could.could(i % 24), 0);
            due("sheet", sheets.sheet(i % 4, i % 3, 60), 1);
        }
    }

    /** Eight with eight who know one another take 80 calls; three times 24 dances with six calls each are the others. */
    private static void fullBall() {
        DanceCards x = Due.ball(8, 8);
        for (int d = 0; d < 24; d++) {
            due("could", x.could(d), 8);
            due("fill", x.fill(d), 8);
            due("sets", x.sets(d), 2);
            due("set", x.set(15, d), 1);
            due("could no more", x.could(d), 0);
            due("fill no more", x.fill(d), 0);
        }
        for (int i = 0; i < 48; i++) {
            int d = i % 24;
            due("part", x.part(15, 7, d), 1);
            due("of no couple", x.set(15, d), DanceCards.NONE);
            due("could", x.could(d), 1);
            due("fill", x.fill(d), 1);
            due("card", x.card(15, d), 7);
            due("couples", x.count(2), 192);
        }
    }

    /** A tape that is filled, ended and told again and again. */
    private static void tapeAgainAndAgain() {
        DanceCards x = new DanceCards();
        for (int i = 0; i < CALLS; i += 4) {
            due("feed", x.feed(Due.eight("row 12; ", 0)), 8);
            due("end", x.end(7), 8);
            due("customs", x.customs(), 1);
            due("custom", x.custom(2), 12);
        }
    }

    /** Wishes that change, and are laid anew each time. */
    private static void wishesAgainAndAgain() {
        DanceCards x = new DanceCards();
        for (int p = 0; p < 16; p++) x.person(p < 8, 0);
        for (int i = 16; i < CALLS; i += 2) {
            x.wish(i / 2 % 8, 8 + i / 16 % 8, 4);
            due("laid", x.laid(15, 63), DanceCards.NONE);
        }
    }

    /** The 512th call itself: it still changes what it says. */
    private static void theLastOne() {
        DanceCards x = new DanceCards();
        for (int i = 1; i < CALLS; i++) x.count(0);
        due("the 512th", x.person(true, 9), 0);
        DanceCards y = new DanceCards();
        for (int i = 1; i < CALLS; i++) y.feud(0, 1, true);
        due("the 512th", y.introduce(0, 1, 2), DanceCards.BAD);
    }

    public static void main(String[] args) {
        questionsOfANewBall();
        fullBall();
        tapeAgainAndAgain();
        wishesAgainAndAgain();
        theLastOne();
        Due.finish();
    }
}
