import java.math.BigInteger;

/** The boundary cases of part 1 of the terms and of promises 1 to 5. */
public final class BoundsOfBoardsTest {
    private static final Checks CHECKS = new Checks("BoundsOfBoardsTest");
    private static final int MIN = Integer.MIN_VALUE;
    private static final int MAX = Integer.MAX_VALUE;

    public static void main(String[] args) {
        newObjectHasNoBoards();
        newObjectHasNoTablesThatPlay();
        newObjectHasNoResults();
        newObjectBesideAnotherOne();
        seedsWrap();
        thirteenCardsEach();
        fullOfBoards();
        swapOfTheOutermostCards();
        swapWithoutSuchABoardOrCard();
        swapOfABoardThatWasBegun();
        swapOfABoardWhoseBeginWasRefused();
        handWithoutSuchABoardOrCard();
        handStaysAsDealt();
        dealersComeRound();
        vulnerabilityComesRound();
        resultsOfABoard();
        tableOfABoard();
        nothingElseOfABoard();
        CHECKS.end();
    }

    private static void newObjectHasNoBoards() {
        CHECKS.about(1, "No boards, nobody plays.");
        Run x = new Run(CHECKS);
        x.each("count *", Run.range(0, 3), 0);
        x.each("board * 0", new int[] {MIN, -1, 0, 1, 2, 36, 37, MAX}, -1);
        x.each("hand * 0", new int[] {MIN, -1, 0, 1, 2, 36, 37, MAX}, -1);
        x.each("swap * 0 1", new int[] {MIN, -1, 0, 1, 2, 36, 37, MAX}, 0);
        x.each("begin 0 * 0 1", new int[] {MIN, -1, 0, 1, 2, 36, 37, MAX}, 0);
        x.due("count 0 = 0", "count 2 = 0", "deal 1 = 1");
    }

    private static void newObjectHasNoTablesThatPlay() {
        CHECKS.about(1, "No boards, nobody plays.");
        for (int t = 0; t <= 9; t++) {
            Run x = new Run(CHECKS);
            x.due("table " + t + " 3 = 0");
            for (int what = 0; what <= 13; what++) {
                x.due("table " + t + " " + what, what == 3 ? 0 : -1);
            }
            x.due("call " + t + " 0 = -1", "play " + t + " 0 = -1", "claim " + t + " 0 = 0", "back " + t + " = 0");
            x.due("leave " + t + " = 0", "called " + t + " 0 = -1", "played " + t + " 0 = -1");
            x.due("allowed " + t + " 0 = 0", "sees " + t + " 0 0 = 0", "lacks " + t + " 0 0 = 0");
            x.due("best " + t + " = -1", "bestCard " + t + " = -1", "count 2 = 0");
        }
    }

    private static void newObjectHasNoResults() {
        CHECKS.about(1, "No boards, nobody plays.");
        Run x = new Run(CHECKS);
        x.due("result 0 0 = -1", "result 0 8 = MIN", "adjust 0 50 50 = 0", "points 0 0 = -1", "points 0 1 = -1");
        x.due("write 0 = -1", "out 0 = -1");
        x.each("total *", Run.range(0, 39), -1);
        x.each("top *", Run.range(0, 39), -1);
        x.each("place *", Run.range(0, 39), -1);
    }

    /** What one object knows the other one does not. */
    private static void newObjectBesideAnotherOne() {
        CHECKS.about(1, "No boards, nobody plays.");
        Run used = new Run(CHECKS).make("deal 1", "deal 2").passOut(0, 1, 0, 1);
        used.make("write 0", "begin 1 2 0 1");
        Run x = new Run(CHECKS);
        x.each("count *", Run.range(0, 3), 0);
        x.due("table 1 3 = 0", "out 0 = -1", "total 0 = -1", "hand 1 0 = -1", "deal 5 = 1", "begin 1 1 0 1 = 1");
        used.due("count 0 = 2", "count 1 = 1", "count 2 = 1", "count 3 = 2", "table 1 0 = 2", "out 0 = 112");
    }

    /** The seed's numbers again, with whole numbers of any size of which 32 bits are kept. */
    private static int[] seatsBySeed(int seed) {
        BigInteger bits = BigInteger.ONE.shiftLeft(32);
        BigInteger state = BigInteger.valueOf(seed);
        int[] row = Run.range(0, 51);
        for (int i = 51; i >= 1; i--) {
            state = state.multiply(BigInteger.valueOf(1103515245)).add(BigInteger.valueOf(12345)).mod(bits);
            int j = state.shiftRight(16).mod(BigInteger.valueOf(i + 1)).intValue();
            int kept = row[i];
            row[i] = row[j];
            row[j] = kept;
        }
        int[] seats = new int[52];
        for (int k = 0; k < 52; k++) {
            seats[row[k]] = k % 4;
        }
        return seats;
    }

    private static void seedsWrap() {
        CHECKS.about(0, "seed becomes seed * 1103515245 + 12345 (32 bits, it wraps)");
        int[] seeds = {
            MIN, MIN + 1, MIN + 2, -65537, -65536, -65535, -2, -1, 0, 1, 2, 65535, 65536, 65537, 0x7FFF0000,
            MAX - 2, MAX - 1, MAX,
        };
        for (int seed : seeds) {
            Run x = new Run(CHECKS).due("deal " + seed + " = 1");
            int[] seats = seatsBySeed(seed);
            for (int c = 0; c <= 51; c++) {
                x.due("hand 1 " + c, seats[c]);
            }
        }
    }

    private static void thirteenCardsEach() {
        CHECKS.about(0, "The card at place k is seat k modulo 4's.");
        Run x = new Run(CHECKS);
        for (int seed = 1; seed <= 9; seed++) {
            long board = x.ask("deal " + seed);
            int[] cards = new int[4];
            for (int c = 0; c <= 51; c++) {
                cards[Math.floorMod((int) x.ask("hand " + board + " " + c), 4)]++;
            }
            for (int seat = 0; seat <= 3; seat++) {
                CHECKS.same("cards of seat " + seat, cards[seat], 13);
            }
        }
    }

    private static void fullOfBoards() {
        CHECKS.about(2, "NONE if there are 36.");
        Run x = new Run(CHECKS);
        for (int b = 1; b <= 36; b++) {
            x.due("deal " + b + " = " + b, "count 0 = " + b, "board " + (b + 1) + " 0 = -1");
        }
        x.due("deal 37 = -1", "deal 36 = -1", "deal 0 = -1", "deal MIN = -1", "deal MAX = -1");
        x.due("count 0 = 36", "board 37 0 = -1", "hand 37 0 = -1", "swap 37 0 1 = 0", "begin 0 37 0 1 = 0");
        int[] seats = seatsBySeed(36);
        for (int c = 0; c <= 51; c++) {
            x.due("hand 36 " + c, seats[c]);
        }
        x.due("swap 36 0 51 = 1", "begin 0 36 0 1 = 1");
    }

    private static void swapOfTheOutermostCards() {
        CHECKS.about(3, "Two cards of a board change their hands: true.");
        // By seed 1: card 0 is south's, 1 too, 2 north's, 50 west's, 51 east's.
        Run x = new Run(CHECKS).make("deal 1", "deal 1", "deal 1");
        x.due("hand 1 0 = 2", "hand 1 51 = 1", "swap 1 0 51 = 1", "hand 1 0 = 1", "hand 1 51 = 2");
        x.due("swap 1 51 0 = 1", "hand 1 0 = 2", "hand 1 51 = 1");
        x.due("swap 3 0 51 = 1", "hand 3 0 = 1", "hand 3 51 = 2", "hand 2 0 = 2", "hand 2 51 = 1");
        x.due("swap 2 0 1 = 1", "hand 2 0 = 2", "hand 2 1 = 2");
        x.due("swap 2 0 0 = 1", "hand 2 0 = 2", "swap 2 51 51 = 1", "hand 2 51 = 1");
        x.due("swap 2 0 2 = 1", "hand 2 0 = 0", "hand 2 2 = 2", "hand 2 1 = 2", "hand 2 50 = 3");
    }

    private static void swapWithoutSuchABoardOrCard() {
        CHECKS.about(3, "False if there is no such board or card");
        Run x = new Run(CHECKS).make("deal 1", "deal 1");
        x.each("swap * 0 51", Run.outside(1, 2), 0);
        x.each("swap 1 * 51", Run.outside(0, 51), 0);
        x.each("swap 1 0 *", Run.outside(0, 51), 0);
        x.each("swap 2 * *", Run.outside(0, 51), 0);
        for (int c = 0; c <= 51; c++) {
            x.due("hand 1 " + c, seatsBySeed(1)[c]);
            x.due("hand 2 " + c, seatsBySeed(1)[c]);
        }
        x.due("swap 1 0 51 = 1", "swap 2 0 51 = 1");
    }

    private static void swapOfABoardThatWasBegun() {
        CHECKS.about(3, "or it was begun at a table");
        Run x = new Run(CHECKS).deal(Deals.SUITS).make("deal 1");
        x.due("swap 1 0 0 = 1", "begin 9 1 0 1 = 1", "swap 1 0 0 = 0", "swap 1 0 51 = 0", "swap 2 0 51 = 1");
        Run left = x.again().due("leave 9 = 1", "swap 1 0 51 = 0", "hand 1 0 = 0", "hand 1 51 = 3");
        left.due("swap 2 0 51 = 1");
        x.again().calls(9, 0, 0, 0, 0).due("count 1 = 1", "swap 1 0 51 = 0", "hand 1 0 = 0");
        x.calls(9, 3, 0, 0, 0).due("table 9 3 = 2", "swap 1 0 51 = 0", "play 9 13 = 0", "swap 1 0 51 = 0");
        x.due("back 9 = 1").suitTricks(9, 1, 0, 9).due("claim 9 4 = 1", "swap 1 0 51 = 0", "hand 1 0 = 0");
        x.due("swap 2 0 51 = 1");
    }

    private static void swapOfABoardWhoseBeginWasRefused() {
        CHECKS.about(3, "or it was begun at a table");
        Run x = new Run(CHECKS).make("deal 1", "deal 1");
        x.due("begin 10 1 0 1 = 0", "begin 0 1 0 0 = 0", "begin 0 1 0 40 = 0", "begin 0 1 -1 0 = 0");
        x.due("begin 0 2 0 1 = 1", "begin 0 1 2 3 = 0", "begin 1 1 0 3 = 0", "begin 1 1 3 1 = 0");
        x.due("swap 1 0 51 = 1", "hand 1 0 = 1", "swap 2 0 51 = 0");
    }

    private static void handWithoutSuchABoardOrCard() {
        CHECKS.about(4, "NONE if there is none such.");
        Run x = new Run(CHECKS).make("deal 1", "deal 1");
        x.each("hand * 0", Run.outside(1, 2), -1);
        x.each("hand 1 *", Run.outside(0, 51), -1);
        x.each("hand 2 *", Run.outside(0, 51), -1);
        x.each("hand 0 *", new int[] {MIN, -1, 0, 51, 52, MAX}, -1);
        x.due("hand 1 0 = 2", "hand 1 51 = 1", "hand 2 0 = 2", "hand 2 51 = 1");
    }

    private static void handStaysAsDealt() {
        CHECKS.about(4, "In whose hand a card of a board was DEALT");
        Run x = new Run(CHECKS).deal(Deals.SUITS).make("begin 0 1 0 1").calls(0, 3, 0, 0, 0);
        x.due("play 0 13 = 0", "hand 1 13 = 1").cards(0, 26, 39, 0).due("hand 1 0 = 0", "hand 1 39 = 3");
        x.due("leave 0 = 1", "hand 1 13 = 1", "hand 1 26 = 2");
    }

    private static void dealersComeRound() {
        CHECKS.about(0, "The DEALER of board b is seat (b - 1) modulo 4.");
        Run x = new Run(CHECKS);
        int[] due = {0, 1, 2, 3, 0, 1, 2, 3, 0};
        for (int b = 1; b <= 36; b++) {
            x.due("deal 0 = " + b, "board " + b + " 0 = " + due[(b - 1) % 8]);
        }
        x.due("begin 0 4 0 1 = 1", "table 0 4 = 3", "begin 1 5 2 3 = 1", "table 1 4 = 0");
        x.due("begin 2 36 4 5 = 1", "table 2 4 = 3", "call 2 0 = 0", "table 2 4 = 0");
    }

    private static void vulnerabilityComesRound() {
        CHECKS.about(0, "by (k + k / 4) modulo 4 (k / 4 cut): 0 none, 1 side 0, 2 side 1, 3 both");
        String due = "0123" + "1230" + "2301" + "3012" + "0123" + "1230" + "2301" + "3012" + "0123";
        Run x = new Run(CHECKS);
        for (int b = 1; b <= 36; b++) {
            x.due("deal 0 = " + b, "board " + b + " 1 = " + due.charAt(b - 1));
        }
    }

    private static void resultsOfABoard() {
        CHECKS.about(5, "2 its results");
        Run x = new Run(CHECKS).make("deal 1", "deal 2").due("board 1 2 = 0", "begin 0 1 0 1 = 1", "board 1 2 = 0");
        x.due("leave 0 = 1", "board 1 2 = 0");
        // With 40 pairs a board has 20 results at the most.
        for (int i = 0; i < 20; i++) {
            x.passOut(i % 10, 1, 2 * i, 2 * i + 1).due("board 1 2 = " + (i + 1), "board 2 2 = 0");
        }
        x.due("adjust 0 0 0 = 1", "board 1 2 = 20", "begin 0 2 0 1 = 1", "board 2 2 = 0");
    }

    private static void tableOfABoard() {
        CHECKS.about(5, "3 the table where it is played (NONE)");
        Run x = new Run(CHECKS);
        for (int b = 1; b <= 10; b++) {
            x.make("deal " + b).due("board " + b + " 3 = -1");
        }
        for (int b = 1; b <= 10; b++) {
            x.due("begin " + (10 - b) + " " + b + " " + b + " " + (b + 10) + " = 1", "board " + b + " 3 = " + (10 - b));
        }
        x.due("board 1 3 = 9", "board 10 3 = 0", "leave 9 = 1", "board 1 3 = -1", "leave 0 = 1", "board 10 3 = -1");
        x.calls(8, 0, 0, 0, 0).due("board 2 3 = -1", "board 3 3 = 7");
        x.calls(7, 0, 3, 0, 0, 0).due("table 7 3 = 2", "board 3 3 = 7", "back 7 = 1", "board 3 3 = 7");
        x.due("begin 0 1 30 31 = 1", "board 1 3 = 0");
    }

    private static void nothingElseOfABoard() {
        CHECKS.about(5, "NONE for others, or no such board.");
        Run x = new Run(CHECKS).make("deal 1", "deal 1", "begin 0 2 0 1");
        x.each("board 1 *", Run.outside(0, 3), -1);
        x.each("board 2 *", Run.outside(0, 3), -1);
        for (int what = -1; what <= 4; what++) {
            x.each("board * " + what, Run.outside(1, 2), -1);
        }
        x.due("board 2 0 = 1", "board 2 1 = 1", "board 2 2 = 0", "board 2 3 = 0");
    }
}
