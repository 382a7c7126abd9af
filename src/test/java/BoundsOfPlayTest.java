/** The boundary cases of PLAY in part 2 of the terms, and of promises 8, 10, 12 and 14 to 17. */
public final class BoundsOfPlayTest {
    private static final Checks CHECKS = new Checks("BoundsOfPlayTest");

    public static void main(String[] args) {
        whoLeadsFirst();
        playOfNoSuchCard();
        playWithoutPlay();
        cardsOfTheHandAlone();
        followTheSuit();
        freeWithoutTheSuit();
        whoWinsLeads();
        answersOfPlay();
        behindTheThirteenth();
        backInPlay();
        backAtTheEnds();
        tableInPlay();
        leadersBeforeTheirCard();
        cardsAreTold();
        allowedInPlay();
        seesItsOwn();
        seesDummy();
        seesNothingSuch();
        lacks();
        lacksWhenItIsTakenBack();
        lacksNothingSuch();
        CHECKS.end();
    }

    /** Board 1 at table 0, north having bid: east leads. */
    private static Run inPlay(int kind, int bid) {
        return new Run(CHECKS).deal(kind).make("begin 0 1 10 11").calls(0, bid, 0, 0, 0);
    }

    private static void whoLeadsFirst() {
        CHECKS.about(0, "the seat next to the DECLARER leads");
        for (int declarer = 0; declarer <= 3; declarer++) {
            Run x = new Run(CHECKS).deal(Deals.SUITS).make("begin 0 1 10 11");
            for (int i = 0; i < declarer; i++) {
                x.make("call 0 0");
            }
            x.calls(0, 7, 0, 0, 0).due("table 0 7 = " + declarer);
            int leader = (declarer + 1) % 4;
            x.due("table 0 4 = " + leader, "table 0 13 = " + leader);
            for (int seat = 0; seat <= 3; seat++) {
                x.again().due("play 0 " + 13 * seat, seat == leader ? 0 : -1);
            }
        }
    }

    private static void playOfNoSuchCard() {
        CHECKS.about(8, "NONE if nothing is PLAYED at the table, or the card isn't allowed.");
        Run x = inPlay(Deals.SUITS, 3);
        x.each("play 0 *", Run.outside(0, 51), -1).each("allowed 0 *", Run.outside(0, 51), 0);
        x.due("played 0 0 = -1", "table 0 11 = 0", "play 0 25 = 0").each("play 0 *", Run.outside(0, 51), -1);
        x.due("table 0 11 = 1", "play 0 38 = 0", "play 0 51 = 0", "play 0 0 = 1");
    }

    private static void playWithoutPlay() {
        CHECKS.about(8, "NONE if nothing is PLAYED at the table, or the card isn't allowed.");
        Run x = new Run(CHECKS).deal(Deals.SUITS).make("begin 0 1 10 11");
        x.each("play 0 *", Run.range(0, 51), -1).due("table 0 12 = 0");
        x.calls(0, 3, 0, 0).each("play 0 *", Run.range(0, 51), -1).due("table 0 12 = 3", "call 0 0 = 1");
        x.each("play * 13", Run.outside(0, 9), -1).each("play * 13", Run.range(1, 9), -1).due("played 0 0 = -1");
        x.due("play 0 13 = 0", "leave 0 = 1", "play 0 26 = -1", "play 0 13 = -1");
    }

    private static void cardsOfTheHandAlone() {
        CHECKS.about(0, "A card must be in the hand of the seat whose turn it is");
        Run x = inPlay(Deals.SUITS, 3);
        x.each("play 0 *", Run.range(0, 12), -1).each("play 0 *", Run.range(26, 51), -1);
        x.each("allowed 0 *", Run.range(0, 12), 0).each("allowed 0 *", Run.range(13, 25), 1);
        x.each("allowed 0 *", Run.range(26, 51), 0).cards(0, 13, 26, 39, 0).due("table 0 4 = 0");
        // What was played is in no hand, whose turn it may be.
        x.due("play 0 0 = -1", "allowed 0 0 = 0", "play 0 1 = 0", "play 0 13 = -1", "play 0 14 = 0");
        x.due("play 0 26 = -1", "play 0 27 = 0", "play 0 39 = -1", "play 0 40 = 1", "play 0 1 = -1");
    }

    /** Of ROUND: diamonds 13 .. 25 are east's, south's, west's, north's, east's and so on. */
    private static void followTheSuit() {
        CHECKS.about(0, "and of the suit that was led, if there is one in that hand");
        Run x = inPlay(Deals.ROUND, 7).due("play 0 25 = 0", "table 0 4 = 2");
        for (int c = 0; c <= 51; c++) {
            x.due("allowed 0 " + c, c == 14 || c == 18 || c == 22 ? 1 : 0);
        }
        // South's other cards: clubs 2 6 10, hearts 26 30 34 38, spades 42 ..; the suits at both ends of diamonds.
        x.due("play 0 10 = -1", "play 0 26 = -1", "play 0 38 = -1", "play 0 50 = -1", "played 0 1 = -1");
        x.due("play 0 14 = 0", "table 0 4 = 3", "allowed 0 12 = 0", "allowed 0 15 = 1", "play 0 15 = 0");
        // A trump is no way out as long as the suit is there.
        Run y = inPlay(Deals.ROUND, 3).due("play 0 25 = 0", "play 0 2 = -1", "play 0 22 = 0");
        y.due("play 0 3 = -1", "play 0 23 = 0", "play 0 0 = -1", "play 0 24 = 1");
    }

    private static void freeWithoutTheSuit() {
        CHECKS.about(0, "and of the suit that was led, if there is one in that hand");
        Run x = inPlay(Deals.SUITS, 3).due("play 0 13 = 0");
        x.each("allowed 0 *", Run.range(26, 38), 1).each("allowed 0 *", Run.range(0, 25), 0);
        x.each("allowed 0 *", Run.range(39, 51), 0).due("play 0 38 = 0", "play 0 51 = 0", "play 0 12 = 1");
        // West has one diamond alone: it must come first, and then any card may.
        int[] seats = Deals.seats(Deals.SUITS);
        seats[25] = 3;
        seats[39] = 1;
        Run y = new Run(CHECKS).deal(seats).make("begin 0 1 10 11").calls(0, 7, 0, 0, 0);
        y.due("play 0 24 = 0", "play 0 26 = 0");
        y.each("allowed 0 *", Run.range(40, 51), 0).due("play 0 51 = -1", "play 0 25 = 0", "play 0 0 = 1");
        y.due("table 0 4 = 3", "back 0 = 1", "play 0 1 = 1", "play 0 40 = 0", "play 0 2 = 0", "play 0 39 = 0");
        y.each("allowed 0 *", Run.range(27, 38), 1);
    }

    private static void whoWinsLeads() {
        CHECKS.about(0, "Who wins a TRICK leads to the next one.");
        // The strain bid, the four cards from east on, and who wins: trumps high and low, first and last.
        int[][] rows = {
            {7, 13, 38, 51, 12, 1}, {3, 13, 38, 51, 0, 0}, {4, 13, 38, 51, 12, 1}, {5, 25, 26, 51, 12, 2},
            {6, 25, 38, 39, 12, 3},
        };
        for (int[] row : rows) {
            Run x = inPlay(Deals.SUITS, row[0]).cards(0, row[1], row[2], row[3]).due("table 0 9 = 0", "table 0 10 = 0");
            x.due("play 0 " + row[4] + " = 1", "table 0 4 = " + row[5], "table 0 13 = " + row[5]);
            x.due("table 0 " + (9 + row[5] % 2) + " = 1", "table 0 " + (10 - row[5] % 2) + " = 0", "table 0 11 = 0");
        }
        // Of ROUND the ranks next to each other decide, wherever the highest one is.
        int[][] diamonds = {{25, 22, 23, 24, 1}, {21, 22, 19, 20, 2}, {21, 22, 23, 20, 3}, {21, 22, 23, 24, 0}};
        for (int[] row : diamonds) {
            for (int bid = 3; bid <= 7; bid++) {
                Run x = inPlay(Deals.ROUND, bid).cards(0, row[0], row[1], row[2], row[3]);
                x.due("table 0 4 = " + row[4], "table 0 13 = " + row[4]);
            }
        }
    }

    private static void answersOfPlay() {
        CHECKS.about(8, "0 the TRICK goes on, 1 it was won, 2 the result came");
        Run x = inPlay(Deals.SUITS, 3);
        int n = 0;
        for (int[] trick : Deals.suitCards(1, 0, 13)) {
            for (int card : trick) {
                n++;
                x.due("play 0 " + card, n == 52 ? 2 : n % 4 == 0 ? 1 : 0);
                x.due("count 1", n == 52 ? 1 : 0);
            }
        }
    }

    private static void behindTheThirteenth() {
        CHECKS.about(0, "Behind the thirteenth the result comes.");
        Run x = inPlay(Deals.SUITS, 33).suitTricks(0, 1, 0, 12).due("table 0 9 = 12", "table 0 10 = 0", "count 1 = 0");
        x.cards(0, 12, 25, 38).due("table 0 11 = 3", "table 0 3 = 2", "allowed 0 51 = 1", "play 0 51 = 2");
        x.due("table 0 3 = 0", "table 0 9 = -1", "table 0 11 = -1", "count 1 = 1", "count 2 = 0", "count 3 = 2");
        x.due("result 0 0 = 1", "result 0 1 = 10", "result 0 2 = 11", "result 0 3 = 7", "result 0 4 = 0");
        x.due("result 0 5 = 0", "result 0 6 = 0", "result 0 7 = 13", "result 0 8 = 1440", "result 0 9 = 0");
        x.due("play 0 51 = -1", "back 0 = 0", "leave 0 = 0", "best 0 = -1", "played 0 0 = -1", "board 1 3 = -1");
        // Not one trick is won by the DECLARER's side.
        Run y = inPlay(Deals.SUITS, 7).suitTricks(0, 1, 1, 12).due("table 0 9 = 0", "table 0 10 = 12");
        y.cards(0, 25, 38, 51).due("play 0 12 = 2", "result 0 7 = 0", "result 0 8 = -350");
    }

    private static void backInPlay() {
        CHECKS.about(0, "the latest call or card of what is played at a table goes (an AUCTION's end, too)");
        Run x = inPlay(Deals.SUITS, 3).suitTricks(0, 1, 0, 1).due("table 0 9 = 1", "table 0 4 = 0");
        x.due("play 0 1 = 0", "back 0 = 1", "table 0 11 = 0", "table 0 4 = 0", "table 0 9 = 1", "allowed 0 1 = 1");
        x.due("back 0 = 1", "table 0 11 = 3", "table 0 4 = 0", "table 0 9 = 0", "table 0 13 = 1", "allowed 0 0 = 1");
        x.due("played 0 3 = -1", "played 0 2 = 39", "play 0 12 = 1", "back 0 = 1", "back 0 = 1", "table 0 4 = 3");
        x.due("back 0 = 1", "back 0 = 1", "table 0 11 = 0", "table 0 4 = 1", "table 0 3 = 2", "table 0 7 = 0");
        x.due("back 0 = 1", "table 0 3 = 1", "table 0 12 = 3", "table 0 4 = 3", "table 0 13 = -1", "play 0 13 = -1");
        x.due("back 0 = 1", "back 0 = 1", "back 0 = 1", "back 0 = 0", "table 0 12 = 0", "table 0 3 = 1");
        // Another contract, another leader, and nothing of what was played before.
        x.calls(0, 0, 6, 0, 0, 0).due("table 0 7 = 1", "table 0 4 = 2", "played 0 0 = -1", "table 0 9 = 0");
        x.cards(0, 26, 39, 0, 13).due("table 0 10 = 1", "table 0 4 = 3");
    }

    private static void backAtTheEnds() {
        CHECKS.about(0, "of none if nothing was called");
        Run x = inPlay(Deals.SUITS, 3).suitTricks(0, 1, 0, 12).cards(0, 12, 25, 38);
        for (int i = 50; i >= 0; i--) {
            int[] trick = Deals.suitCards(1, 0, 13).get(i / 4);
            x.due("played 0 " + i + " = " + trick[i % 4], "back 0 = 1", "played 0 " + i + " = -1");
            x.due("table 0 11 = " + i % 4);
        }
        x.due("table 0 3 = 2", "back 0 = 1", "back 0 = 1", "back 0 = 1", "back 0 = 1", "back 0 = 0", "count 2 = 1");
    }

    private static void tableInPlay() {
        CHECKS.about(12, "9 TRICKS that side 0 won, 10 that side 1 won, "
                + "11 cards that were played to the TRICK under way");
        Run x = inPlay(Deals.SUITS, 3);
        int n = 0;
        for (int[] trick : Deals.suitCards(1, 0, 10)) {
            for (int card : trick) {
                x.due("table 0 9 = " + n / 4, "table 0 10 = 0", "table 0 11 = " + n % 4);
                x.due("table 0 4 = " + (n + (n < 4 ? 1 : 0)) % 4, "table 0 13 = " + (n < 4 ? 1 : 0));
                x.due("play 0 " + card, n % 4 == 3 ? 1 : 0);
                n++;
            }
        }
        x.each("table 0 *", Run.outside(0, 13), -1);
        x.due("table 0 0 = 1", "table 0 1 = 10", "table 0 2 = 11", "table 0 3 = 2", "table 0 5 = 1", "table 0 6 = 0");
        x.due("table 0 7 = 0", "table 0 8 = 0", "table 0 12 = 4");
    }

    private static void leadersBeforeTheirCard() {
        CHECKS.about(12, "13 who led to it");
        Run x = inPlay(Deals.SUITS, 6).due("table 0 13 = 1").cards(0, 13).due("table 0 13 = 1");
        x.cards(0, 26, 39).due("table 0 13 = 1").cards(0, 0).due("table 0 13 = 3").cards(0, 40).due("table 0 13 = 3");
        x.due("back 0 = 1", "table 0 13 = 3", "back 0 = 1", "table 0 13 = 1");
    }

    private static void cardsAreTold() {
        CHECKS.about(14, "Card i that was played of it (from 0 on, all TRICKS in a row); NONE.");
        Run x = inPlay(Deals.SUITS, 3).due("played 0 0 = -1", "play 0 25 = 0", "played 0 0 = 25", "played 0 1 = -1");
        x.cards(0, 38, 51, 12, 11).due("played 0 3 = 12", "played 0 4 = 11", "played 0 5 = -1");
        x.each("played 0 *", Run.outside(0, 4), -1).each("played * 0", Run.outside(0, 9), -1);
        x.each("played * 0", Run.range(1, 9), -1).due("leave 0 = 1", "played 0 0 = -1");
        x.due("begin 0 1 10 11 = 1", "played 0 0 = -1").calls(0, 3, 0, 0, 0).due("played 0 0 = -1");
        x.suitTricks(0, 1, 0, 12).cards(0, 12, 25, 38).due("played 0 0 = 13", "played 0 50 = 38", "played 0 51 = -1");
        x.each("played 0 *", Run.outside(0, 50), -1).due("play 0 51 = 2", "played 0 50 = -1", "played 0 51 = -1");
    }

    private static void allowedInPlay() {
        CHECKS.about(15, "Whether a call (in an AUCTION) or a card (in PLAY) is allowed at a table now.");
        // A call's number is no card's: 0 is a club, which is north's.
        Run x = inPlay(Deals.SUITS, 3).due("allowed 0 0 = 0", "allowed 0 37 = 0", "allowed 0 13 = 1");
        x.due("allowed 0 25 = 1", "allowed 0 12 = 0", "allowed 0 26 = 0").each("allowed 0 *", Run.outside(0, 51), 0);
        x.each("allowed * 13", Run.outside(0, 9), 0).each("allowed * 13", Run.range(1, 9), 0).due("table 0 11 = 0");
        x.due("back 0 = 1", "allowed 0 0 = 1", "allowed 0 13 = 1", "allowed 0 38 = 0", "call 0 0 = 1", "leave 0 = 1");
        x.each("allowed 0 *", Run.range(0, 51), 0);
    }

    private static void seesItsOwn() {
        CHECKS.about(16, "it is, or was, its own; it was played");
        Run x = new Run(CHECKS).deal(Deals.SUITS).due("sees 0 0 0 = 0").make("begin 0 1 10 11");
        for (int seat = 0; seat <= 3; seat++) {
            for (int c = 0; c <= 51; c++) {
                x.due("sees 0 " + seat + " " + c, c / 13 == seat ? 1 : 0);
            }
        }
        x.calls(0, 3, 0, 0, 0).due("sees 0 0 13 = 0", "sees 0 1 13 = 1", "sees 0 1 25 = 1", "play 0 13 = 0");
        x.due("sees 0 0 13 = 1", "sees 0 1 13 = 1", "sees 0 2 13 = 1", "sees 0 3 13 = 1", "sees 0 0 14 = 0");
        x.cards(0, 26, 39, 0).due("sees 0 3 0 = 1", "sees 0 3 1 = 0", "sees 0 1 39 = 1", "sees 0 1 40 = 0");
        x.due("back 0 = 1", "sees 0 3 0 = 0", "sees 0 0 0 = 1", "leave 0 = 1", "sees 0 0 0 = 0", "sees 0 1 13 = 0");
    }

    private static void seesDummy() {
        CHECKS.about(16, "or it is, or was, DUMMY's, and the first card was played");
        for (int declarer = 0; declarer <= 3; declarer++) {
            Run x = new Run(CHECKS).deal(Deals.SUITS).make("begin 0 1 10 11");
            for (int i = 0; i < declarer; i++) {
                x.make("call 0 0");
            }
            x.calls(0, 7, 0, 0);
            int dummy = (declarer + 2) % 4;
            seesOfDummy(x, dummy, 0);
            seesOfDummy(x.make("call 0 0"), dummy, 0);
            seesOfDummy(x.make("play 0 " + 13 * ((declarer + 1) % 4)), dummy, 1);
            seesOfDummy(x.make("play 0 " + 13 * dummy), dummy, 1);
            seesOfDummy(x.make("back 0", "back 0"), dummy, 0);
        }
    }

    /** Whether the others see dummy's first and last card; the others' last cards nobody else sees. */
    private static void seesOfDummy(Run x, int dummy, int due) {
        for (int seat = 0; seat <= 3; seat++) {
            for (int of = 0; of <= 3; of++) {
                int sees = seat == of ? 1 : of == dummy ? due : 0;
                x.due("sees 0 " + seat + " " + (13 * of + 12), sees);
            }
            x.due("sees 0 " + seat + " " + 13 * dummy, seat == dummy ? 1 : due);
        }
    }

    private static void seesNothingSuch() {
        CHECKS.about(16, "Whether a seat at a table sees a card");
        Run x = inPlay(Deals.SUITS, 3).cards(0, 13, 26);
        for (int seat = 0; seat <= 3; seat++) {
            x.each("sees 0 " + seat + " *", Run.outside(0, 51), 0);
        }
        for (int card : new int[] {0, 13, 26, 27, 51}) {
            x.each("sees 0 * " + card, Run.outside(0, 3), 0).each("sees * 0 " + card, Run.outside(0, 9), 0);
        }
        x.each("sees * 0 13", Run.range(1, 9), 0).due("sees 0 0 13 = 1", "sees 0 3 51 = 1");
    }

    private static void lacks() {
        CHECKS.about(17, "it played another one when that was led");
        // A row for each seat, a sign for each suit.
        Run x = inPlay(Deals.SUITS, 3);
        shows(x, "0000", "0000", "0000", "0000");
        shows(x.cards(0, 13), "0000", "0000", "0000", "0000");
        shows(x.cards(0, 26), "0000", "0000", "0100", "0000");
        shows(x.cards(0, 39), "0000", "0000", "0100", "0100");
        shows(x.cards(0, 0), "0100", "0000", "0100", "0100");
        shows(x.cards(0, 1), "0100", "0000", "0100", "0100");
        shows(x.cards(0, 14), "0100", "1000", "0100", "0100");
        shows(x.cards(0, 27), "0100", "1000", "1100", "0100");
        shows(x.cards(0, 40), "0100", "1000", "1100", "1100");
        shows(x.make("leave 0"), "0000", "0000", "0000", "0000");
        shows(x.make("begin 0 1 10 11").calls(0, 3, 0, 0, 0), "0000", "0000", "0000", "0000");
        // West's spades are trumps: east, whose turn is the third then, lacks them, and so on round the table.
        Run z = inPlay(Deals.SUITS, 6).suitTricks(0, 1, 3, 1).due("table 0 13 = 3");
        shows(z.cards(0, 40), "0100", "0000", "0100", "0100");
        shows(z.cards(0, 1), "0101", "0000", "0100", "0100");
        shows(z.cards(0, 14), "0101", "0001", "0100", "0100");
        shows(z.cards(0, 27), "0101", "0001", "0101", "0100");
        // Who follows shows nothing, even with the last card of the suit.
        Run y = inPlay(Deals.ROUND, 7).cards(0, 13, 14, 15, 16, 28, 29);
        shows(y, "0000", "0000", "0000", "0000");
    }

    private static void shows(Run x, String... rows) {
        for (int seat = 0; seat <= 3; seat++) {
            for (int suit = 0; suit <= 3; suit++) {
                x.due("lacks 0 " + seat + " " + suit, rows[seat].charAt(suit) - '0');
            }
        }
    }

    private static void lacksWhenItIsTakenBack() {
        CHECKS.about(17, "Whether a seat showed at a table, in PLAY, that it has none of a suit");
        Run x = inPlay(Deals.SUITS, 3).cards(0, 13, 26, 39, 0, 1, 14);
        shows(x.make("back 0"), "0100", "0000", "0100", "0100");
        shows(x.make("back 0", "back 0"), "0000", "0000", "0100", "0100");
        shows(x.make("back 0", "back 0"), "0000", "0000", "0000", "0000");
        shows(x.make("back 0", "back 0"), "0000", "0000", "0000", "0000");
        x.due("table 0 3 = 1");
    }

    private static void lacksNothingSuch() {
        CHECKS.about(17, "Whether a seat showed at a table, in PLAY, that it has none of a suit");
        Run x = inPlay(Deals.SUITS, 3).cards(0, 13, 26, 39, 0).due("lacks 0 2 1 = 1");
        for (int suit = 0; suit <= 3; suit++) {
            x.each("lacks 0 * " + suit, Run.outside(0, 3), 0).each("lacks 0 " + suit + " *", Run.outside(0, 3), 0);
        }
        x.each("lacks * 2 1", Run.outside(0, 9), 0).each("lacks * 2 1", Run.range(1, 9), 0);
        x.each("lacks 0 * -1", Run.range(-1, 4), 0).each("lacks 0 * 4", Run.range(-1, 4), 0).due("lacks 0 2 1 = 1");
    }
}
