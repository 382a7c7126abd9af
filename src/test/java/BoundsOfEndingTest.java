/** The boundary cases of a CLAIM in part 2 of the terms, and of promises 9, 18 and 19. */
public final class BoundsOfEndingTest {
    private static final Checks CHECKS = new Checks("BoundsOfEndingTest");
    private static final int MIN = Integer.MIN_VALUE;
    private static final int MAX = Integer.MAX_VALUE;

    public static void main(String[] args) {
        fourTricksAndMore();
        eachCardOfTheEnding();
        oneTrickLeft();
        notPlayed();
        noSuchTable();
        claimOfSoMany();
        claimOfNone();
        claimWithMoreThanFourLeft();
        claimWithTheTrickUnderWay();
        claimOfTheLastTrick();
        claimOfTheOtherSide();
        claimWithoutPlay();
        leastCard();
        bestCardsToTheEnd();
        backIntoAndOutOfTheEnding();
        CHECKS.end();
    }

    /** Board 1 at table 0: north has bid, east leads, and the winner has won so many tricks. */
    private static Run suits(int bid, int winner, int tricks) {
        Run x = new Run(CHECKS).deal(Deals.SUITS).make("begin 0 1 10 11").calls(0, bid, 0, 0, 0);
        return x.suitTricks(0, 1, winner, tricks);
    }

    private static void fourTricksAndMore() {
        CHECKS.about(18, "or more than 4 tricks are left");
        Run x = suits(3, 0, 0);
        int n = 0;
        for (int[] trick : Deals.suitCards(1, 0, 9)) {
            for (int card : trick) {
                x.due("best 0 = -1", "bestCard 0 = -1", "claim 0 " + (13 - n / 4) + " = 0", "claim 0 -1 = 0");
                x.make("play 0 " + card);
                n++;
            }
        }
        x.due("best 0 = 4", "bestCard 0 = 9", "claim 0 4 = 1");
    }

    /** Whoever wins all tricks: best() counts the DECLARER's side, with each card less than four tricks. */
    private static void eachCardOfTheEnding() {
        CHECKS.about(18, "How many of the tricks left the DECLARER's side wins with best play of all four");
        int[] winnerOfBid = {0, 1, 2, 3, 1};
        for (int bid = 3; bid <= 7; bid++) {
            int winner = winnerOfBid[bid - 3];
            Run x = suits(bid, winner, 9);
            for (int n = 0; n < 16; n++) {
                int card = 13 * ((winner + n) % 4) + 9 + n / 4;
                x.due("best 0", winner % 2 == 0 ? 4 - n / 4 : 0).due("bestCard 0", card).make("play 0 " + card);
            }
            x.due("count 1 = 1", "best 0 = -1", "bestCard 0 = -1");
        }
    }

    private static void oneTrickLeft() {
        CHECKS.about(19, "The least card, among those that are allowed, with which best() stays as it is");
        Run x = suits(3, 0, 12).due("best 0 = 1", "bestCard 0 = 12", "play 0 12 = 0", "best 0 = 1", "bestCard 0 = 25");
        x.due("play 0 25 = 0", "best 0 = 1", "bestCard 0 = 38", "play 0 38 = 0", "best 0 = 1", "bestCard 0 = 51");
        x.due("play 0 51 = 2", "best 0 = -1", "bestCard 0 = -1");
    }

    private static void notPlayed() {
        CHECKS.about(18, "NONE if nothing is PLAYED at a table");
        Run x = new Run(CHECKS).due("best 0 = -1", "bestCard 0 = -1").deal(Deals.SUITS).due("best 0 = -1");
        x.make("begin 0 1 10 11").due("best 0 = -1", "bestCard 0 = -1").calls(0, 3, 0, 0);
        x.due("best 0 = -1", "bestCard 0 = -1", "call 0 0 = 1", "best 0 = -1", "bestCard 0 = -1");
        x.suitTricks(0, 1, 0, 9).due("best 0 = 4", "leave 0 = 1", "best 0 = -1", "bestCard 0 = -1");
        x.due("begin 0 1 10 11 = 1", "best 0 = -1", "bestCard 0 = -1").calls(0, 0, 0, 0, 0).due("best 0 = -1");
        // The same board again: what came before at the table does not count.
        x.due("begin 0 1 12 13 = 1").calls(0, 3, 0, 0, 0).due("best 0 = -1", "bestCard 0 = -1", "claim 0 4 = 0");
    }

    private static void noSuchTable() {
        CHECKS.about(18, "NONE if nothing is PLAYED at a table");
        Run x = suits(3, 0, 9);
        x.each("best *", Run.outside(0, 9), -1).each("best *", Run.range(1, 9), -1);
        x.each("bestCard *", Run.outside(0, 9), -1).each("bestCard *", Run.range(1, 9), -1);
        x.each("claim * 4", Run.outside(0, 9), 0).each("claim * 4", Run.range(1, 9), 0);
        x.each("claim * -1", Run.outside(0, 9), 0).due("count 1 = 0", "best 0 = 4", "claim 0 4 = 1");
    }

    private static void claimOfSoMany() {
        CHECKS.about(0, "it is taken if best() is n");
        Run x = suits(3, 0, 9);
        x.each("claim 0 *", Run.outside(4, 4), 0).each("claim 0 *", Run.range(-1, 3), 0);
        x.due("claim 0 13 = 0", "table 0 3 = 2", "table 0 9 = 9", "count 1 = 0", "best 0 = 4", "claim 0 4 = 1");
        x.due("table 0 3 = 0", "count 1 = 1", "count 2 = 0", "result 0 7 = 13", "result 0 8 = 190", "board 1 2 = 1");
        x.due("claim 0 4 = 0", "claim 0 0 = 0", "count 1 = 1", "back 0 = 0", "leave 0 = 0", "board 1 3 = -1");
    }

    private static void claimOfNone() {
        CHECKS.about(0, "the DECLARER's side gets n of these, its result comes");
        Run x = suits(7, 1, 9).due("best 0 = 0").each("claim 0 *", Run.outside(0, 0), 0);
        x.each("claim 0 *", Run.range(1, 5), 0).due("count 1 = 0", "claim 0 0 = 1", "result 0 7 = 0");
        x.due("result 0 8 = -350", "table 0 3 = 0", "count 3 = 2");
    }

    private static void claimWithMoreThanFourLeft() {
        CHECKS.about(9, "false if there may be none, or it isn't taken");
        Run x = suits(3, 0, 8).cards(0, 8, 21, 34).due("table 0 11 = 3");
        x.each("claim 0 *", Run.range(-1, 13), 0).each("claim 0 *", Run.outside(-1, 13), 0);
        x.due("count 1 = 0", "table 0 11 = 3", "play 0 47 = 1", "claim 0 5 = 0", "claim 0 4 = 1");
    }

    private static void claimWithTheTrickUnderWay() {
        CHECKS.about(0, "(that which is under way is one of these)");
        for (int cards = 36; cards <= 51; cards++) {
            Run x = suits(3, 0, cards / 4);
            for (int i = 0; i < cards % 4; i++) {
                x.make("play 0 " + (13 * i + cards / 4));
            }
            int left = 13 - cards / 4;
            x.due("claim 0 " + (left - 1) + " = 0", "claim 0 " + (left + 1) + " = 0", "claim 0 " + left + " = 1");
            x.due("result 0 7 = 13", "result 0 8 = 190", "table 0 3 = 0");
        }
    }

    private static void claimOfTheLastTrick() {
        CHECKS.about(0, "with 4 or fewer tricks left to be won");
        Run x = suits(7, 1, 12).cards(0, 25, 38, 51).due("best 0 = 0", "claim 0 1 = 0", "claim 0 -1 = 0");
        x.due("claim 0 0 = 1", "result 0 7 = 0", "play 0 12 = -1");
    }

    private static void claimOfTheOtherSide() {
        CHECKS.about(0, "the DECLARER's side gets n of these");
        // East declares diamonds, which east has, and then clubs, which north has.
        Run x = new Run(CHECKS).deal(Deals.SUITS).make("begin 0 1 10 11").calls(0, 0, 4, 0, 0, 0);
        x.suitTricks(0, 2, 1, 9).due("table 0 10 = 9", "best 0 = 4", "claim 0 0 = 0", "claim 0 4 = 1");
        x.due("result 0 5 = 1", "result 0 7 = 13", "result 0 8 = -190", "begin 0 1 12 13 = 1").calls(0, 0, 3, 0, 0, 0);
        x.suitTricks(0, 2, 0, 9).due("table 0 9 = 9", "best 0 = 0", "claim 0 4 = 0", "claim 0 0 = 1");
        x.due("result 1 5 = 1", "result 1 7 = 0", "result 1 8 = 350");
    }

    private static void claimWithoutPlay() {
        CHECKS.about(9, "false if there may be none, or it isn't taken");
        Run x = new Run(CHECKS).deal(Deals.SUITS);
        int[] wild = {MIN, -1, 0, 1, 4, 13, MAX};
        x.each("claim 0 *", wild, 0).make("begin 0 1 10 11").each("claim 0 *", wild, 0);
        x.calls(0, 0, 0, 0).each("claim 0 *", wild, 0).due("count 1 = 0").calls(0, 3, 0, 0).each("claim 0 *", wild, 0);
        x.calls(0, 0).due("table 0 3 = 2").each("claim 0 *", wild, 0).due("leave 0 = 1").each("claim 0 *", wild, 0);
        x.due("count 1 = 0");
    }

    /** North's clubs are trumps and all win: the least of those left, not of those that were played. */
    private static void leastCard() {
        CHECKS.about(19, "The least card, among those that are allowed, with which best() stays as it is");
        // From the ace down: 12 .. 4 are gone, 3 2 1 0 are left.
        Run x = suits(3, 0, 0).cards(0, 25, 38, 51, 12);
        for (int k = 1; k <= 8; k++) {
            x.cards(0, 12 - k, 25 - k, 38 - k, 51 - k);
        }
        x.due("table 0 9 = 9", "best 0 = 4", "bestCard 0 = 0", "play 0 3 = 0", "bestCard 0 = 13", "play 0 16 = 0");
        x.due("bestCard 0 = 26", "play 0 26 = 0", "bestCard 0 = 39", "play 0 42 = 1", "best 0 = 3", "bestCard 0 = 0");
    }

    /** Of ROUND with spades as trumps: with the best card each time, as many are won as best() told. */
    private static void bestCardsToTheEnd() {
        CHECKS.about(19, "The least card, among those that are allowed");
        Run x = new Run(CHECKS).deal(Deals.ROUND).make("begin 0 1 10 11").calls(0, 6, 0, 0, 0);
        for (int n = 0; n < 36; n++) {
            int c = 51;
            while (x.again().ask("play 0 " + c) == -1) {
                c--;
            }
            x.make("play 0 " + c);
        }
        for (int n = 36; n < 52; n++) {
            long best = x.ask("best 0");
            long card = x.ask("bestCard 0");
            x.due("allowed 0 " + card + " = 1");
            long won = x.ask("table 0 9");
            x.make("play 0 " + card);
            long wonNow = n == 51 ? x.ask("result 0 7") : x.ask("table 0 9");
            x.due("best 0", n == 51 ? -1 : best - (wonNow - won));
            CHECKS.yes("no more is won than best() told", n < 51 || wonNow - won == best);
        }
    }

    private static void backIntoAndOutOfTheEnding() {
        CHECKS.about(18, "or more than 4 tricks are left");
        Run x = suits(3, 0, 9).due("best 0 = 4", "back 0 = 1", "best 0 = -1", "bestCard 0 = -1", "claim 0 5 = 0");
        x.due("play 0 47 = 1", "best 0 = 4", "bestCard 0 = 9", "play 0 9 = 0", "bestCard 0 = 22", "back 0 = 1");
        x.due("bestCard 0 = 9", "claim 0 4 = 1");
    }
}
