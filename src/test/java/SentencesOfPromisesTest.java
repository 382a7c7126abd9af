/** What the document promises of each method, in its order, with ordinary inputs. */
public final class SentencesOfPromisesTest {
    private static final Checks CHECKS = new Checks("SentencesOfPromisesTest");

    public static void main(String[] args) {
        newObject();
        deal();
        swap();
        hand();
        board();
        begin();
        call();
        play();
        claim();
        back();
        leave();
        table();
        called();
        played();
        allowed();
        sees();
        lacks();
        best();
        bestCard();
        result();
        resultOfPassed();
        adjust();
        score();
        steps();
        points();
        total();
        top();
        place();
        plan();
        write();
        out();
        count();
        CHECKS.end();
    }

    /** Board 1, of SUITS, at table 0: north has bid and east leads. */
    private static Run inPlay(int bid) {
        return new Run(CHECKS).deal(Deals.SUITS).make("begin 0 1 10 11").calls(0, bid, 0, 0, 0);
    }

    /** What a call with its last argument from 0 on answers. */
    private static void row(Run x, String call, long... due) {
        for (int i = 0; i < due.length; i++) {
            x.due(call + " " + i, due[i]);
        }
    }

    private static void newObject() {
        CHECKS.about(1, "No boards, nobody plays.");
        Run x = new Run(CHECKS);
        row(x, "count", 0, 0, 0, 0);
        row(x, "table 0", -1, -1, -1, 0, -1);
        row(x, "board 1", -1, -1, -1, -1);
        x.due("begin 0 1 0 1 = 0", "deal 1 = 1", "begin 0 1 0 1 = 1");
    }

    private static void deal() {
        CHECKS.about(2, "A board is DEALT by a seed: its number; NONE if there are 36.");
        Run x = new Run(CHECKS);
        for (int b = 1; b <= 36; b++) {
            x.due("deal " + (b % 2 == 0 ? 1 : 4) + " = " + b);
        }
        x.due("deal 1 = -1", "count 0 = 36");
        // By seed 1 the cards 0 to 5 are south's, south's, north's, east's, west's, west's; by seed 4 not.
        for (int b = 2; b <= 36; b += 2) {
            row(x, "hand " + b, 2, 2, 0, 1, 3, 3);
            row(x, "hand " + (b - 1), 2, 1, 3, 3, 2, 3);
        }
    }

    private static void swap() {
        CHECKS.about(3, "Two cards of a board change their hands: true. False if there is no such board or card, "
                + "or it was begun at a table.");
        Run x = new Run(CHECKS).make("deal 1", "deal 1").due("swap 1 0 2 = 1");
        row(x, "hand 1", 0, 2, 2, 1, 3, 3);
        row(x, "hand 2", 2, 2, 0, 1, 3, 3);
        x.due("swap 1 3 4 = 1", "swap 3 0 2 = 0", "swap 1 52 2 = 0", "swap 1 0 -1 = 0");
        row(x, "hand 1", 0, 2, 2, 3, 1, 3);
        // What was swapped is what is played: card 0 is north's now.
        x.due("begin 0 1 0 1 = 1", "sees 0 0 0 = 1", "sees 0 2 0 = 0", "swap 1 0 2 = 0", "swap 2 0 2 = 1");
        x.due("leave 0 = 1", "swap 1 0 2 = 0");
    }

    private static void hand() {
        CHECKS.about(4, "In whose hand a card of a board was DEALT; NONE if there is none such.");
        Run x = inPlay(3).cards(0, 13, 26, 39, 0).make("deal 1");
        for (int c = 0; c <= 51; c++) {
            x.due("hand 1 " + c, c / 13);
        }
        row(x, "hand 2", 2, 2, 0, 1, 3, 3);
        x.due("hand 3 0 = -1", "hand 0 0 = -1", "hand 1 52 = -1", "hand 1 -1 = -1");
    }

    private static void board() {
        CHECKS.about(5, "Of a board: 0 its DEALER, 1 who is VULNERABLE (0 .. 3), 2 its results, "
                + "3 the table where it is played (NONE). NONE for others, or no such board.");
        Run x = new Run(CHECKS);
        for (int b = 1; b <= 7; b++) {
            x.make("deal " + b);
        }
        row(x, "board 1", 0, 0, 0, -1, -1);
        row(x, "board 7", 2, 3, 0, -1, -1);
        row(x.make("begin 8 7 0 1"), "board 7", 2, 3, 0, 8, -1);
        row(x.calls(8, 0, 0, 0, 0), "board 7", 2, 3, 1, -1, -1);
        row(x.make("begin 0 7 2 3"), "board 7", 2, 3, 1, 0, -1);
        row(x.calls(0, 0, 0, 0, 0), "board 7", 2, 3, 2, -1, -1);
        row(x, "board 6", 1, 2, 0, -1, -1);
        row(x, "board 8", -1, -1, -1, -1);
    }

    private static void begin() {
        CHECKS.about(6, "A board begins at a table, with a pair for side 0 and one for side 1: true. "
                + "False if there is no such table, board or pair; one plays (the table, the board, a pair); "
                + "both pairs are one; a pair has played the board (for whatever side); or 200 results came.");
        Run x = new Run(CHECKS).make("deal 1", "deal 2").due("begin 3 2 21 7 = 1", "count 2 = 1");
        row(x, "table 3", 2, 21, 7, 1, 1, -1, -1, -1, -1, 0, 0, 0, 0, -1);
        x.due("board 2 3 = 3", "begin 10 1 0 1 = 0", "begin 4 3 0 1 = 0", "begin 4 1 40 1 = 0", "begin 3 1 0 1 = 0");
        x.due("begin 4 2 0 1 = 0", "begin 4 1 7 1 = 0", "begin 4 1 0 0 = 0", "table 4 3 = 0").calls(3, 0, 0, 0, 0);
        x.due("begin 4 2 0 7 = 0", "begin 4 2 7 0 = 0", "begin 4 2 0 1 = 1", "begin 3 1 7 21 = 1", "count 2 = 2");
    }

    private static void call() {
        CHECKS.about(7, "A CALL of the seat whose turn it is: 0 the AUCTION goes on, 1 it ended, 2 the board is "
                + "PASSED. NONE if there is no AUCTION under way at the table, or the CALL isn't allowed.");
        Run x = new Run(CHECKS).make("deal 1", "deal 2", "begin 0 2 10 11").due("table 0 4 = 1", "call 1 0 = -1");
        x.due("call 0 5 = 0", "table 0 4 = 2", "call 0 5 = -1", "call 0 2 = -1", "table 0 4 = 2", "call 0 1 = 0");
        x.due("table 0 4 = 3", "call 0 0 = 0", "call 0 0 = 0", "call 0 0 = 1", "call 0 0 = -1", "table 0 7 = 1");
        Run y = new Run(CHECKS).make("deal 1", "begin 0 1 10 11");
        y.due("call 0 0 = 0", "call 0 0 = 0", "call 0 0 = 0", "call 0 0 = 2", "call 0 0 = -1", "count 1 = 1");
    }

    private static void play() {
        CHECKS.about(8, "A card of the seat whose turn it is: 0 the TRICK goes on, 1 it was won, 2 the result came. "
                + "NONE if nothing is PLAYED at the table, or the card isn't allowed.");
        Run x = inPlay(3).due("play 0 26 = -1", "play 0 0 = -1", "play 0 13 = 0", "play 0 14 = -1", "play 0 26 = 0");
        x.due("play 0 39 = 0", "play 0 0 = 1", "play 0 26 = -1", "play 1 1 = -1", "table 0 4 = 0", "back 0 = 1");
        x.due("play 0 12 = 1", "back 0 = 1", "play 0 0 = 1");
        for (int k = 1; k <= 12; k++) {
            x.due("play 0 " + k + " = 0", "play 0 " + (13 + k) + " = 0", "play 0 " + (26 + k) + " = 0");
            x.due("play 0 " + (39 + k), k == 12 ? 2 : 1);
        }
        x.due("play 0 0 = -1", "count 1 = 1", "result 0 7 = 13");
    }

    private static void claim() {
        CHECKS.about(9, "A CLAIM of n tricks: true; false if there may be none, or it isn't taken.");
        Run x = inPlay(3).due("claim 0 13 = 0").suitTricks(0, 1, 0, 8).due("claim 0 5 = 0");
        x.cards(0, 8, 21, 34, 47).due("claim 0 5 = 0", "claim 0 3 = 0", "claim 1 4 = 0", "claim 0 4 = 1");
        x.due("claim 0 4 = 0", "count 1 = 1", "result 0 7 = 13", "table 0 3 = 0");
    }

    private static void back() {
        CHECKS.about(10, "It is taken BACK: true; false if there is nothing.");
        Run x = new Run(CHECKS).due("back 0 = 0").deal(Deals.SUITS).make("begin 0 1 10 11").due("back 0 = 0");
        x.calls(0, 3).due("back 0 = 1", "table 0 12 = 0", "back 0 = 0").calls(0, 3, 0, 0, 0).cards(0, 13);
        x.due("back 0 = 1", "played 0 0 = -1", "table 0 3 = 2", "back 0 = 1", "table 0 3 = 1", "back 1 = 0");
    }

    private static void leave() {
        CHECKS.about(11, "What is played at a table goes without a result: true; false if there is nothing.");
        Run x = inPlay(3).cards(0, 13).due("leave 1 = 0", "leave 0 = 1", "leave 0 = 0", "count 1 = 0", "count 2 = 0");
        row(x, "table 0", -1, -1, -1, 0, -1, -1, -1, -1, -1, -1, -1, -1, -1, -1);
        x.due("begin 0 1 10 11 = 1", "leave 0 = 1", "count 1 = 0", "board 1 2 = 0", "board 1 3 = -1");
    }

    private static void table() {
        CHECKS.about(12, "Of a table: 0 its board, 1 the pair of side 0, 2 that of side 1, 3 what is under way "
                + "(0 nothing, 1 an AUCTION, 2 PLAY), 4 whose turn it is, 5 the LEVEL, 6 the STRAIN, 7 the DECLARER, "
                + "8 whether the latest BID is doubled (1) or redoubled (2), 9 TRICKS that side 0 won, "
                + "10 that side 1 won, 11 cards that were played to the TRICK under way, 12 calls in the AUCTION, "
                + "13 who led to it.");
        Run x = new Run(CHECKS).make("deal 0").deal(Deals.SUITS);
        row(x, "table 0", -1, -1, -1, 0, -1, -1, -1, -1, -1, -1, -1, -1, -1, -1, -1);
        row(x.make("begin 0 2 10 11"), "table 0", 2, 10, 11, 1, 1, -1, -1, -1, -1, 0, 0, 0, 0, -1, -1);
        row(x.calls(0, 0, 15), "table 0", 2, 10, 11, 1, 3, 3, 2, -1, 0, 0, 0, 0, 2, -1, -1);
        row(x.calls(0, 1), "table 0", 2, 10, 11, 1, 0, 3, 2, -1, 1, 0, 0, 0, 3, -1, -1);
        row(x.calls(0, 2), "table 0", 2, 10, 11, 1, 1, 3, 2, -1, 2, 0, 0, 0, 4, -1, -1);
        row(x.calls(0, 0, 0, 0), "table 0", 2, 10, 11, 2, 3, 3, 2, 2, 2, 0, 0, 0, 7, 3, -1);
        row(x.cards(0, 39, 0), "table 0", 2, 10, 11, 2, 1, 3, 2, 2, 2, 0, 0, 2, 7, 3, -1);
        row(x.cards(0, 13, 26), "table 0", 2, 10, 11, 2, 2, 3, 2, 2, 2, 1, 0, 0, 7, 2, -1);
        row(x.cards(0, 27), "table 0", 2, 10, 11, 2, 3, 3, 2, 2, 2, 1, 0, 1, 7, 2, -1);
        Run y = inPlay(4).suitTricks(0, 1, 1, 2).cards(0, 15, 28, 41);
        row(y, "table 0", 1, 10, 11, 2, 0, 1, 1, 0, 0, 0, 2, 3, 4, 1, -1);
    }

    private static void called() {
        CHECKS.about(13, "Call i of the AUCTION of what is played at a table; NONE.");
        Run x = new Run(CHECKS).deal(Deals.SUITS).make("begin 0 1 10 11").calls(0, 0, 3, 1, 2, 9, 0, 0);
        row(x, "called 0", 0, 3, 1, 2, 9, 0, 0, -1);
        row(x.calls(0, 0).cards(0, 13), "called 0", 0, 3, 1, 2, 9, 0, 0, 0, -1);
        row(x.make("leave 0"), "called 0", -1, -1);
    }

    private static void played() {
        CHECKS.about(14, "Card i that was played of it (from 0 on, all TRICKS in a row); NONE.");
        Run x = inPlay(3).cards(0, 25, 30, 44, 7, 2, 13);
        row(x, "played 0", 25, 30, 44, 7, 2, 13, -1);
        row(x.make("back 0"), "played 0", 25, 30, 44, 7, 2, -1, -1);
        row(x.make("leave 0"), "played 0", -1, -1);
    }

    private static void allowed() {
        CHECKS.about(15, "Whether a call (in an AUCTION) or a card (in PLAY) is allowed at a table now.");
        Run x = new Run(CHECKS).deal(Deals.SUITS).due("allowed 0 0 = 0").make("begin 0 1 10 11");
        row(x.calls(0, 6), "allowed 0", 1, 1, 0, 0, 0, 0, 0, 1, 1);
        row(x.calls(0, 1), "allowed 0", 1, 0, 1, 0, 0, 0, 0, 1, 1);
        row(x.calls(0, 0, 0, 0), "allowed 0", 0, 0, 0, 0, 0, 0, 0, 0, 0, 0, 0, 0, 0, 1, 1);
        x.each("allowed 0 *", Run.range(13, 25), 1).each("allowed 0 *", Run.range(26, 51), 0).due("table 0 11 = 0");
        x.cards(0, 13).each("allowed 0 *", Run.range(13, 25), 0).each("allowed 0 *", Run.range(26, 38), 1);
    }

    private static void sees() {
        CHECKS.about(16, "Whether a seat at a table sees a card: it is, or was, its own; it was played; or it is, "
                + "or was, DUMMY's, and the first card was played.");
        Run x = inPlay(3).due("sees 0 3 40 = 1", "sees 0 3 27 = 0", "sees 0 3 13 = 0", "play 0 13 = 0");
        x.due("sees 0 3 40 = 1", "sees 0 3 27 = 1", "sees 0 3 13 = 1", "sees 0 3 14 = 0", "sees 0 3 1 = 0");
        x.cards(0, 27, 40, 1).due("sees 0 3 40 = 1", "sees 0 3 27 = 1", "sees 0 3 1 = 1", "sees 0 2 40 = 1");
        x.due("sees 0 2 1 = 1", "sees 0 2 2 = 0", "sees 0 1 13 = 1", "sees 0 0 28 = 1", "sees 1 0 0 = 0");
    }

    private static void lacks() {
        CHECKS.about(17, "Whether a seat showed at a table, in PLAY, that it has none of a suit: it played another one "
                + "when that was led.");
        Run x = inPlay(3).due("lacks 0 2 1 = 0", "play 0 13 = 0", "lacks 0 2 1 = 0", "play 0 27 = 0");
        x.due("lacks 0 2 1 = 1", "lacks 0 2 0 = 0", "lacks 0 2 2 = 0", "lacks 0 2 3 = 0", "lacks 0 3 1 = 0");
        x.due("lacks 0 1 1 = 0");
        x.cards(0, 40, 1).due("lacks 0 3 1 = 1", "lacks 0 0 1 = 1", "lacks 0 1 1 = 0", "lacks 1 2 1 = 0");
    }

    /**
     * Hearts are trumps; south draws ten of them, and three spades each are left: north has ace, ten and two,
     * south king, jack and three. The queen is west's or east's, with the eight and the nine or the seven and less.
     */
    private static Run queenOfSpades(boolean isWests) {
        int[] seats = Deals.seats(Deals.SUITS);
        // Three of each other suit go to west, whose spades go to the others.
        int[] wests = {0, 1, 2, 13, 14, 15, 26, 27, 28};
        for (int c : wests) {
            seats[c] = 3;
        }
        int[] norths = {39, 47, 51};
        int[] souths = {40, 48, 50};
        int[] easts = isWests ? new int[] {42, 43, 44} : new int[] {45, 46, 49};
        for (int i = 0; i < 3; i++) {
            seats[norths[i]] = 0;
            seats[souths[i]] = 2;
            seats[easts[i]] = 1;
        }
        Run x = new Run(CHECKS).deal(seats).make("begin 0 1 10 11").calls(0, 5, 0, 0, 0);
        int[] westsCards = {13, 26, 27, 28, 14, 15, 0, 1, 2, 41};
        x.cards(0, 16, 29, 13, 3);
        for (int k = 1; k < 10; k++) {
            x.cards(0, 29 + k, westsCards[k], 3 + k, 16 + k);
        }
        return x.due("table 0 9 = 10", "table 0 4 = 2", "table 0 11 = 0");
    }

    private static void best() {
        CHECKS.about(18, "How many of the tricks left the DECLARER's side wins with best play of all four, "
                + "all cards being seen; NONE if nothing is PLAYED at a table, or more than 4 tricks are left.");
        // Who sees all cards catches the queen wherever it is.
        queenOfSpades(true).due("best 0 = 3", "play 0 40 = 0", "best 0 = 3", "play 0 45 = 0", "best 0 = 3");
        queenOfSpades(false).due("best 0 = 3", "play 0 40 = 0", "best 0 = 3", "play 0 42 = 0", "best 0 = 3");
        // The wrong card costs a trick: the ten runs into east's queen.
        queenOfSpades(false).cards(0, 40, 42, 47).due("best 0 = 2", "play 0 49 = 1", "best 0 = 2");
        Run x = inPlay(3).due("best 0 = -1", "best 1 = -1").suitTricks(0, 1, 0, 8).due("best 0 = -1");
        x.cards(0, 8, 21, 34).due("best 0 = -1").cards(0, 47).due("best 0 = 4", "leave 0 = 1", "best 0 = -1");
    }

    private static void bestCard() {
        CHECKS.about(19, "The least card, among those that are allowed, with which best() stays as it is; "
                + "NONE likewise.");
        queenOfSpades(true).due("bestCard 0 = 40").cards(0, 40, 45).due("bestCard 0 = 47");
        queenOfSpades(false).due("bestCard 0 = 40").cards(0, 40, 42).due("bestCard 0 = 51");
        Run x = inPlay(3).due("bestCard 0 = -1", "bestCard 1 = -1").suitTricks(0, 1, 0, 8).due("bestCard 0 = -1");
        x.cards(0, 12, 21, 34).due("bestCard 0 = -1").cards(0, 47).due("bestCard 0 = 8").cards(0, 9);
        x.due("bestCard 0 = 22", "leave 0 = 1", "bestCard 0 = -1");
    }

    private static void result() {
        CHECKS.about(20, "Of a result (from 0 on, as they came): 0 its board, 1 the pair of side 0, 2 of side 1, "
                + "3 the LEVEL (0 if PASSED), 4 STRAIN, 5 DECLARER, 6 doubled or redoubled, 7 TRICKS of the "
                + "DECLARER's side (4 to 7: NONE if PASSED), 8 its SCORE, 9 whether it is ADJUSTED.");
        Run x = new Run(CHECKS).allTricks(1, 1, 9, 0, 0, 0).passOut(4, 1, 7, 6).make("adjust 1 1 2");
        row(x, "result 0", 1, 10, 11, 2, 1, 1, 0, 13, -190);
        row(x, "result 1", 1, 7, 6, 0, -1, -1, -1, -1, 0, 1);
        x.due("result 0 9 = 0", "result 0 10 = -1", "adjust 0 1 2 = 1", "result 0 9 = 1", "result 0 8 = -190");
        row(new Run(CHECKS).allTricks(2, 2, 20, 1, 0, 0, 0), "result 0", 1, 10, 11, 4, 2, 2, 1, 13, 890, 0);
        row(new Run(CHECKS).allTricks(3, 0, 3, 1, 2, 0, 0, 0), "result 0", 1, 10, 11, 1, 0, 3, 2, 0, 3400, 0);
    }

    private static void resultOfPassed() {
        CHECKS.about(20, "NONE for others but 8, which is 0; or no such result (of 8: -2147483648).");
        Run x = new Run(CHECKS).due("result 0 8 = MIN", "result 0 3 = -1").make("deal 1").passOut(0, 1, 0, 1);
        row(x, "result 0", 1, 0, 1, 0, -1, -1, -1, -1, 0, 0, -1, -1);
        x.due("result 1 8 = MIN", "result 1 0 = -1", "result 1 3 = -1", "result -1 8 = MIN", "result 0 -1 = -1");
    }

    private static void adjust() {
        CHECKS.about(21, "A result is ADJUSTED (in place of what it was) to PARTS of 100 for both sides: true; "
                + "false if there is none such, or no such PARTS.");
        Run x = new Run(CHECKS).make("deal 1").passOut(0, 1, 0, 1).passOut(0, 1, 2, 3);
        x.due("adjust 1 70 25 = 1", "points 1 0 = 14", "points 1 1 = 5", "adjust 1 40 60 = 1", "points 1 0 = 8");
        x.due("points 1 1 = 12", "result 1 9 = 1", "result 0 9 = 0", "adjust 2 50 50 = 0", "adjust 0 101 0 = 0");
        x.due("adjust 0 0 -1 = 0", "result 0 9 = 0", "points 1 1 = 12");
    }

    private static void score() {
        CHECKS.about(22, "The SCORE for the declaring side of a CONTRACT: LEVEL, STRAIN, doubled (0, 1, 2), "
                + "VULNERABLE, TRICKS; -2147483648 for what can't be.");
        Run x = new Run(CHECKS).due("score 4 3 0 false 10 = 420", "score 4 3 0 true 10 = 620");
        x.due("score 4 3 1 false 10 = 590", "score 4 3 2 false 10 = 880", "score 4 3 0 false 11 = 450");
        x.due("score 4 3 0 false 9 = -50", "score 4 1 0 false 10 = 130", "score 5 3 0 false 10 = -50");
        x.due("score 6 3 0 true 12 = 1430", "score 7 4 2 true 13 = 2980", "score 3 3 0 false 10 = 170");
        x.due("score 8 3 0 false 10 = MIN", "score 4 5 0 false 10 = MIN", "score 4 3 3 false 10 = MIN");
        x.due("score 4 3 0 false 14 = MIN", "score 0 3 0 false 10 = MIN");
    }

    private static void steps() {
        CHECKS.about(23, "The STEPS by which SCORE a is above SCORE b.");
        Run x = new Run(CHECKS).due("steps 420 400 = 1", "steps 400 420 = -1", "steps 620 -100 = 12");
        x.due("steps -100 620 = -12", "steps -50 -100 = 2", "steps 1440 1440 = 0", "steps 2980 -7600 = 24");
    }

    /** Boards 1 and 2 at table 0, of SUITS: board 1 brings 190 and twice 0, board 2 twice 0. */
    private static Run twoBoards() {
        Run x = new Run(CHECKS).allTricks(0, 0, 3, 0, 0, 0).make("deal 0").passOut(0, 1, 1, 2).passOut(0, 1, 3, 4);
        return x.passOut(0, 2, 11, 3).passOut(0, 2, 4, 10);
    }

    private static void points() {
        CHECKS.about(24, "The POINTS, in tenths, of result i for a side; NONE if there is none such.");
        Run x = twoBoards();
        row(x, "points 0", 40, 0, -1);
        row(x, "points 1", 10, 30, -1);
        row(x, "points 2", 10, 30, -1);
        row(x, "points 3", 10, 10, -1);
        row(x, "points 5", -1, -1, -1);
        row(x.make("adjust 1 100 5"), "points 1", 40, 2, -1);
        row(x, "points 0", 30, 10, -1);
    }

    private static void total() {
        CHECKS.about(25, "All POINTS of a pair; NONE if it has no result.");
        Run x = twoBoards().due("total 10 = 50", "total 11 = 10", "total 1 = 10", "total 2 = 30", "total 3 = 20");
        x.due("total 4 = 40", "total 0 = -1", "total 40 = -1", "adjust 4 0 100 = 1", "total 4 = 30", "total 10 = 60");
    }

    private static void top() {
        CHECKS.about(26, "All that a pair could have: 20 (n - 1) for each of its results, n being those of its board; "
                + "NONE if it has no result.");
        Run x = twoBoards().due("top 10 = 60", "top 11 = 60", "top 1 = 40", "top 2 = 40", "top 3 = 60", "top 4 = 60");
        x.due("top 0 = -1", "top -1 = -1", "adjust 0 0 0 = 1", "top 10 = 60").passOut(0, 2, 1, 2);
        x.due("top 10 = 80", "top 1 = 80", "top 3 = 80").make("deal 0").passOut(0, 3, 1, 5);
        x.due("top 1 = 80", "top 5 = 0");
    }

    private static void place() {
        CHECKS.about(27, "1 more than how many pairs have a greater part of what they could have (those that could "
                + "have had nothing have a part of one half); NONE if it has no result.");
        // Parts: 10 has 50 of 60, 2 30 of 40, 4 40 of 60, 3 20 of 60, 1 10 of 40, 11 10 of 60.
        Run x = twoBoards().due("place 10 = 1", "place 2 = 2", "place 4 = 3", "place 3 = 4", "place 1 = 5");
        x.due("place 11 = 6", "place 0 = -1", "place 40 = -1").make("deal 0").passOut(0, 3, 20, 21);
        x.due("place 20 = 4", "place 21 = 4", "place 4 = 3", "place 3 = 6", "place 11 = 8");
    }

    private static void plan() {
        CHECKS.about(28, "In a PLAN for t tables, in round r at table k: 0 the pair of side 0, 1 that of side 1, "
                + "2 the set of boards; NONE for what isn't.");
        Run x = new Run(CHECKS);
        row(x, "plan 3 2 1", 1, 5, 0, -1);
        row(x, "plan 4 1 2", 2, 5, 3, -1);
        row(x, "plan 4 2 2", 2, 7, 0, -1);
        row(x, "plan 8 6 3", 3, 12, 1, -1);
        row(x, "plan 9 8 7", 7, 17, 6, -1);
        row(x, "plan 4 3 2", -1, -1, -1);
        row(x, "plan 3 2 3", -1, -1, -1);
        row(x, "plan 11 2 3", -1, -1, -1);
    }

    private static void write() {
        CHECKS.about(29, "OUT is a result WRITTEN: how many signs; NONE (and OUT stays) if there is none such.");
        Run x = twoBoards().due("write 0 = 7");
        row(x, "out", '1', 'C', ' ', 'N', ' ', '+', '6', -1);
        x.due("write 5 = -1", "write -1 = -1");
        row(x, "out", '1', 'C', ' ', 'N', ' ', '+', '6', -1);
        row(x.due("write 3 = 4"), "out", 'p', 'a', 's', 's', -1, -1, -1, -1);
    }

    private static void out() {
        CHECKS.about(30, "Sign i of OUT; NONE without.");
        Run x = twoBoards();
        row(x, "out", -1, -1);
        row(x.make("write 0"), "out", 49, 67, 32, 78, 32, 43, 54, -1);
        x.due("out -1 = -1");
    }

    private static void count() {
        CHECKS.about(31, "0 boards, 1 results, 2 tables that play, 3 pairs with a result. NONE for others.");
        row(twoBoards(), "count", 2, 5, 0, 6, -1);
        row(twoBoards().make("begin 9 1 20 21", "begin 0 2 1 2", "deal 4"), "count", 3, 5, 2, 6, -1);
    }
}
