/** The sentences of the document's terms in their order, each with ordinary inputs. */
public final class SentencesOfTermsTest {
    private static final Checks CHECKS = new Checks("SentencesOfTermsTest");
    private static final String SEAT_SIGNS = "NESW";
    private static final String SUIT_SIGNS = "CDHS";

    public static void main(String[] args) {
        suitsAreFollowed();
        ranksWin();
        suitsHaveTheirNames();
        seatsHaveTheirNames();
        nextIsOneMore();
        partnersAreTwoApart();
        sides();
        boardsAsTheyCome();
        vulnerable();
        dealtBySeeds();
        pairsOfATable();
        callsAreNumbers();
        dummyIsThePartner();
        claims();
        takenBack();
        scoresOfResults();
        tricksOfTheContract();
        doubledAndRedoubledMore();
        notMade();
        steps();
        points();
        adjustedPoints();
        plans();
        written();
        theConstant();
        CHECKS.end();
    }

    /** Board 1 at table 0 behind the auction, so many passes before the bid. */
    private static Run inPlay(int kind, int declarer, int bid) {
        Run x = new Run(CHECKS).deal(kind).make("begin 0 1 10 11");
        for (int i = 0; i < declarer; i++) {
            x.calls(0, 0);
        }
        return x.calls(0, bid, 0, 0, 0);
    }

    // ---- part 1

    private static void aboutCards() {
        CHECKS.about(0, "CARDS are numbers 0 .. 51: 13 times the SUIT (0 clubs, 1 diamonds, 2 hearts, 3 spades) "
                + "and the RANK (0 the two .. 12 the ace).");
    }

    /** Of ROUND each seat has three or four of each suit: of the cards of the suit led, its own are allowed. */
    private static void suitsAreFollowed() {
        aboutCards();
        for (int suit = 0; suit <= 3; suit++) {
            for (int rank = 0; rank <= 12; rank++) {
                int lead = 13 * suit + rank;
                if (Deals.seat(Deals.ROUND, lead) != 1) {
                    continue;
                }
                Run x = inPlay(Deals.ROUND, 0, 7).due("play 0 " + lead + " = 0");
                for (int c = 0; c <= 51; c++) {
                    boolean follows = c >= 13 * suit && c <= 13 * suit + 12;
                    x.due("allowed 0 " + c, follows && Deals.seat(Deals.ROUND, c) == 2 ? 1 : 0);
                }
            }
        }
    }

    /** Four ranks in a row are those of four seats: the highest wins, and of the highest of all the ace. */
    private static void ranksWin() {
        aboutCards();
        for (int suit = 0; suit <= 3; suit++) {
            for (int least = 0; least <= 9; least++) {
                Run x = inPlay(Deals.ROUND, 0, 7);
                for (int i = 0; i < 4; i++) {
                    int seat = (1 + i) % 4;
                    int card = 13 * suit + least;
                    while (Deals.seat(Deals.ROUND, card) != seat) {
                        card++;
                    }
                    x.due("play 0 " + card, i == 3 ? 1 : 0);
                }
                x.due("table 0 4", Deals.seat(Deals.ROUND, 13 * suit + least + 3));
            }
        }
    }

    /** Who has all cards of the suit that is trumps wins all tricks; it is written by its sign. */
    private static void suitsHaveTheirNames() {
        aboutCards();
        int[] scores = {190, -190, 260, -260};
        for (int suit = 0; suit <= 3; suit++) {
            Run x = new Run(CHECKS).allTricks(suit, suit, 3 + suit, 0, 0, 0);
            x.due("result 0 4 = " + suit, "result 0 7 = 13", "result 0 8 = " + scores[suit], "write 0 = 7");
            x.due("out 1", SUIT_SIGNS.charAt(suit));
        }
    }

    private static void aboutSeats() {
        CHECKS.about(0, "SEATS: 0 north, 1 east, 2 south, 3 west; next is 1 more (0 behind 3); partners are two apart; "
                + "SIDES: 0 north and south, 1 east and west.");
    }

    private static void seatsHaveTheirNames() {
        aboutSeats();
        for (int seat = 0; seat <= 3; seat++) {
            Run x = new Run(CHECKS).allTricks(seat, seat, 3 + seat, 0, 0, 0);
            x.due("result 0 5 = " + seat, "write 0 = 7").due("out 3", SEAT_SIGNS.charAt(seat));
        }
    }

    private static void nextIsOneMore() {
        aboutSeats();
        int[] next = {1, 2, 3, 0};
        for (int declarer = 0; declarer <= 3; declarer++) {
            Run x = inPlay(Deals.SUITS, declarer, 7).due("table 0 4 = " + next[declarer]);
            int seat = next[declarer];
            for (int i = 0; i < 3; i++) {
                x.due("table 0 4 = " + seat, "play 0 " + 13 * seat + " = 0");
                seat = next[seat];
            }
            x.due("table 0 4 = " + seat);
        }
        Run y = new Run(CHECKS).make("deal 1", "begin 0 1 10 11");
        int seat = 0;
        for (int bid = 3; bid <= 12; bid++) {
            y.due("table 0 4 = " + seat, "call 0 " + bid + " = 0");
            seat = next[seat];
        }
    }

    private static void partnersAreTwoApart() {
        aboutSeats();
        int[] partner = {2, 3, 0, 1};
        for (int seat = 0; seat <= 3; seat++) {
            Run x = inPlay(Deals.SUITS, seat, 7).due("play 0 " + 13 * ((seat + 1) % 4) + " = 0");
            for (int of = 0; of <= 3; of++) {
                x.due("sees 0 " + seat + " " + (13 * of + 5), of == seat || of == partner[seat] ? 1 : 0);
            }
            // Nobody doubles a bid of the partner.
            Run y = new Run(CHECKS).make("deal 1", "begin 0 1 10 11");
            for (int i = 0; i < seat; i++) {
                y.calls(0, 0);
            }
            y.calls(0, 3).due("allowed 0 1 = 1").calls(0, 0).due("table 0 4 = " + partner[seat], "allowed 0 1 = 0");
        }
    }

    private static void sides() {
        aboutSeats();
        int[] side = {0, 1, 0, 1};
        for (int seat = 0; seat <= 3; seat++) {
            Run x = inPlay(Deals.SUITS, 0, 3 + seat).suitTricks(0, 1, seat, 3);
            x.due("table 0 9", side[seat] == 0 ? 3 : 0).due("table 0 10", side[seat] == 1 ? 3 : 0);
            Run y = new Run(CHECKS).allTricks(seat, seat, 3 + seat, 0, 0, 0).passOut(0, 1, 12, 13);
            y.due("total 10", side[seat] == 0 ? 20 : 0).due("total 11", side[seat] == 1 ? 20 : 0);
        }
    }

    private static void boardsAsTheyCome() {
        CHECKS.about(0, "BOARDS have numbers 1, 2, .. as they come.");
        Run x = new Run(CHECKS).due("deal 5 = 1", "deal 1 = 2", "count 0 = 2", "begin 0 1 0 1 = 1", "deal 5 = 3");
        for (int c = 0; c <= 51; c++) {
            long first = x.ask("hand 1 " + c);
            x.due("hand 3 " + c, first);
        }
        // By seed 1 card 0 is south's and card 51 east's, by seed 5 not.
        x.due("hand 2 0 = 2", "hand 2 51 = 1").passOut(1, 3, 2, 3).due("result 0 0 = 3", "board 3 2 = 1");
        x.due("board 1 2 = 0", "table 0 0 = 1", "deal 5 = 4", "count 0 = 4");
        CHECKS.yes("boards 1 and 2 are not the same", x.ask("hand 1 0") != 2 || x.ask("hand 1 51") != 1);
    }

    private static void vulnerable() {
        CHECKS.about(0, "VULNERABLE are, with k = (b - 1) modulo 16, by (k + k / 4) modulo 4 (k / 4 cut): 0 none, "
                + "1 side 0, 2 side 1, 3 both.");
        // As it stands on real boards: o none, n north and south, e east and west, b both; from 17 on again.
        String real = "onebneboebonboneonebneboebonboneoneb";
        Run x = new Run(CHECKS);
        for (int b = 1; b <= 36; b++) {
            x.due("deal 3 = " + b, "board " + b + " 1 = " + "oneb".indexOf(real.charAt(b - 1)));
        }
        // Board 5 has north and south vulnerable: 7 spades, which west has, cost them 1300, the others 650.
        Run y = new Run(CHECKS).make("deal 0", "deal 0", "deal 0", "deal 0").deal(Deals.SUITS);
        y.make("begin 0 5 10 11").calls(0, 36, 0, 0, 0).suitTricks(0, 1, 3, 9).make("claim 0 0");
        y.make("begin 0 5 12 13").calls(0, 0, 35, 0, 0, 0).suitTricks(0, 2, 2, 9).make("claim 0 0");
        y.due("result 0 8 = -1300", "result 1 8 = 650");
    }

    private static void dealtBySeeds() {
        CHECKS.about(0, "To DEAL by a seed: a row has the cards 0 .. 51; for i from 51 down to 1: seed becomes "
                + "seed * 1103515245 + 12345 (32 bits, it wraps), j is (seed shifted right by 16, without sign) "
                + "modulo (i + 1), and what is at i and j in the row is exchanged. "
                + "The card at place k is seat k modulo 4's.");
        // The seats of cards 0 .. 51, found apart from this program.
        String[] seats = {
            "2201332330323112021112300113020302010100223231231031",
            "2133230101100232122021103001312303311230032023022311",
        };
        for (int i = 0; i < seats.length; i++) {
            Run x = new Run(CHECKS).due("deal " + (i == 0 ? 1 : 4) + " = 1");
            for (int c = 0; c <= 51; c++) {
                x.due("hand 1 " + c, seats[i].charAt(c) - '0');
            }
        }
    }

    // ---- part 2

    private static void pairsOfATable() {
        CHECKS.about(0, "TABLES 0 .. 9 play one board each at a time, with two PAIRS (0 .. 39), one a side.");
        Run x = new Run(CHECKS).make("deal 1", "deal 2", "deal 3").due("begin 4 2 17 8 = 1", "begin 5 1 8 30 = 0");
        x.due("table 4 0 = 2", "table 4 1 = 17", "table 4 2 = 8", "begin 4 3 1 2 = 0", "begin 5 1 30 31 = 1");
        x.due("table 5 0 = 1", "table 5 1 = 30", "table 5 2 = 31").calls(4, 0, 0, 0, 0).due("begin 4 3 8 17 = 1");
        x.due("result 0 1 = 17", "result 0 2 = 8", "table 4 0 = 3", "table 4 1 = 8", "table 4 2 = 17");
    }

    private static void callsAreNumbers() {
        CHECKS.about(0, "CALLS are numbers: 0 pass, 1 double, 2 redouble, 3 + 5 (LEVEL - 1) + STRAIN a BID "
                + "(LEVEL 1 .. 7; STRAIN 0 .. 3 the suits, 4 no trumps).");
        Run x = new Run(CHECKS).make("deal 1", "begin 0 1 10 11");
        x.due("call 0 0 = 0", "table 0 5 = -1", "table 0 4 = 1", "call 0 11 = 0", "table 0 5 = 2", "table 0 6 = 3");
        x.due("table 0 8 = 0", "call 0 1 = 0", "table 0 8 = 1", "table 0 5 = 2", "table 0 6 = 3", "call 0 2 = 0");
        x.due("table 0 8 = 2", "table 0 5 = 2", "table 0 6 = 3", "call 0 0 = 0", "table 0 8 = 2", "call 0 24 = 0");
        x.due("table 0 5 = 5", "table 0 6 = 1", "table 0 8 = 0", "call 0 0 = 0", "call 0 0 = 0", "call 0 0 = 1");
        int bid = 3;
        for (int level = 1; level <= 7; level++) {
            for (int strain = 0; strain <= 4; strain++) {
                Run y = new Run(CHECKS).make("deal 1", "begin 0 1 10 11").due("call 0 " + bid + " = 0");
                y.due("table 0 5 = " + level, "table 0 6 = " + strain, "allowed 0 " + bid + " = 0");
                bid++;
            }
        }
    }

    private static void dummyIsThePartner() {
        CHECKS.about(0, "PLAY: the seat next to the DECLARER leads; the DECLARER's partner is DUMMY.");
        int[] partner = {2, 3, 0, 1};
        for (int declarer = 0; declarer <= 3; declarer++) {
            int leader = (declarer + 1) % 4;
            Run x = inPlay(Deals.SUITS, declarer, 7).due("table 0 7 = " + declarer, "table 0 4 = " + leader);
            x.due("sees 0 " + leader + " " + 13 * partner[declarer] + " = 0");
            x.due("play 0 " + (13 * leader + 3) + " = 0").due("table 0 13", leader);
            for (int seat = 0; seat <= 3; seat++) {
                x.each("sees 0 " + seat + " *", Run.range(13 * partner[declarer], 13 * partner[declarer] + 12), 1);
                x.due("sees 0 " + seat + " " + 13 * declarer, seat == declarer ? 1 : 0);
            }
            // It is dummy whose turn is next, and its card that must come.
            x.due("table 0 4 = " + partner[declarer], "play 0 " + 13 * partner[declarer] + " = 0");
        }
    }

    private static void claims() {
        CHECKS.about(0, "A CLAIM, behind the AUCTION, with 4 or fewer tricks left to be won "
                + "(that which is under way is one of these): the DECLARER's side gets n of these, its result comes; "
                + "it is taken if best() is n.");
        Run x = new Run(CHECKS).deal(Deals.SUITS).make("begin 0 1 10 11").calls(0, 5, 0, 0).due("claim 0 0 = 0");
        x.calls(0, 0).due("claim 0 13 = 0").suitTricks(0, 1, 2, 8).due("claim 0 5 = 0").cards(0, 34, 47, 8);
        x.due("claim 0 5 = 0", "claim 0 4 = 0", "play 0 21 = 1", "best 0 = 4", "claim 0 3 = 0", "count 1 = 0");
        x.cards(0, 35, 48).due("table 0 11 = 2", "best 0 = 4", "claim 0 3 = 0", "claim 0 4 = 1", "count 1 = 1");
        x.due("result 0 7 = 13", "result 0 5 = 0", "table 0 3 = 0", "claim 0 4 = 0");
        // West wins all tricks: of those left north gets none.
        Run y = inPlay(Deals.SUITS, 0, 6).suitTricks(0, 1, 3, 11).due("best 0 = 0", "claim 0 2 = 0", "claim 0 0 = 1");
        y.due("result 0 7 = 0", "result 0 8 = -350");
    }

    private static void takenBack() {
        CHECKS.about(0, "To take BACK: the latest call or card of what is played at a table goes "
                + "(an AUCTION's end, too); of none if nothing was called.");
        Run x = inPlay(Deals.SUITS, 0, 3).cards(0, 13, 26).due("back 0 = 1", "played 0 1 = -1", "played 0 0 = 13");
        x.due("table 0 4 = 2", "back 0 = 1", "table 0 3 = 2", "table 0 4 = 1", "back 0 = 1", "table 0 3 = 1");
        x.due("table 0 12 = 3", "table 0 4 = 3", "back 0 = 1", "back 0 = 1", "called 0 1 = -1", "called 0 0 = 3");
        x.due("back 0 = 1", "back 0 = 0", "table 0 3 = 1", "table 0 12 = 0", "called 0 0 = -1", "call 0 4 = 0");
    }

    // ---- part 3

    /** A contract of each side on boards with none, one side, the other and both vulnerable. */
    private static void scoresOfResults() {
        CHECKS.about(0, "SCORES. Of a CONTRACT of LEVEL l that won t tricks, its SIDE being VULNERABLE or not.");
        int[] vulnerable = {0, 1, 2, 3};
        for (int b = 1; b <= 4; b++) {
            for (int winner = 0; winner <= 1; winner++) {
                Run x = new Run(CHECKS);
                for (int i = 1; i < b; i++) {
                    x.make("deal 0");
                }
                x.deal(Deals.SUITS).make("begin 0 " + b + " 10 11").calls(0, 18 + winner, 0, 0, 0);
                x.suitTricks(0, b % 4, winner, 9).make("claim 0 " + x.ask("best 0"));
                int side = (b - 1) % 2;
                boolean isVulnerable = (vulnerable[b - 1] & (side + 1)) != 0;
                int tricks = winner == side ? 13 : 0;
                long score = x.ask("score 4 " + winner + " 0 " + isVulnerable + " " + tricks);
                CHECKS.same("4 of a minor, 13 or no tricks", score, tricks == 13 ? 190 : isVulnerable ? -1000 : -500);
                x.due("result 0 7 = " + tricks).due("result 0 8", side == 0 ? score : -score);
            }
        }
    }

    private static void tricksOfTheContract() {
        CHECKS.about(0, "Made (t at least l + 6): each of l tricks 20 (clubs, diamonds), 30 (hearts, spades, "
                + "no trumps), and 10 more for no trumps; all that twice if doubled, four times if redoubled.");
        // Below 100 there are 50 more, and 50 or 100 more if it is doubled or redoubled.
        Run x = new Run(CHECKS);
        x.due("score 1 0 0 false 7 = 70", "score 2 0 0 false 8 = 90", "score 3 0 0 false 9 = 110");
        x.due("score 4 0 0 false 10 = 130", "score 1 1 0 false 7 = 70", "score 2 1 0 false 8 = 90");
        x.due("score 3 1 0 false 9 = 110", "score 4 1 0 false 10 = 130", "score 1 2 0 false 7 = 80");
        x.due("score 2 2 0 false 8 = 110", "score 3 2 0 false 9 = 140", "score 1 3 0 false 7 = 80");
        x.due("score 2 3 0 false 8 = 110", "score 3 3 0 false 9 = 140", "score 1 4 0 false 7 = 90");
        x.due("score 2 4 0 false 8 = 120", "score 1 0 1 false 7 = 140", "score 2 1 1 false 8 = 180");
        x.due("score 1 3 1 false 7 = 160", "score 1 4 1 false 7 = 180", "score 1 1 2 false 7 = 230");
        // From 100 on there are 300 more.
        x.due("score 5 1 0 false 11 = 400", "score 4 2 0 false 10 = 420", "score 5 3 0 false 11 = 450");
        x.due("score 3 4 0 false 9 = 400", "score 5 4 0 false 11 = 460", "score 3 0 1 false 9 = 470");
        x.due("score 2 3 1 false 8 = 470", "score 2 4 1 false 8 = 490", "score 1 4 2 false 7 = 560");
    }

    private static void doubledAndRedoubledMore() {
        CHECKS.about(0, "Doubled 50, redoubled 100 more.");
        Run x = new Run(CHECKS);
        // 2 clubs: 80 + 50, 3 clubs: 120 + 300, redoubled 160 + 300, 240 + 300; vulnerable 500.
        x.due("score 2 0 1 false 8 = 180", "score 3 0 1 false 9 = 470", "score 2 0 2 false 8 = 560");
        x.due("score 3 0 2 false 9 = 640", "score 3 0 1 true 9 = 670", "score 3 0 2 true 9 = 840");
        // What is lost has none of it.
        x.due("score 3 0 1 false 8 = -100", "score 3 0 2 false 8 = -200");
    }

    private static void notMade() {
        CHECKS.about(0, "Not made, u tricks short, it loses: 50 (100) each; doubled: 100 for the first, 200 each for "
                + "the second and the third, 300 each for others (VULNERABLE: 200 for the first, 300 each for "
                + "others); redoubled twice that.");
        int[] due = {
            // not vulnerable: plain, doubled, redoubled; then vulnerable
            50, 100, 200, 100, 200, 400, 100, 300, 600, 200, 500, 1000, 150, 500, 1000, 300, 800, 1600, 200, 800,
            1600, 400, 1100, 2200, 250, 1100, 2200, 500, 1400, 2800,
        };
        Run x = new Run(CHECKS);
        for (int i = 0; i < due.length; i++) {
            boolean isVulnerable = i / 3 % 2 == 1;
            for (int level = 1; level <= 7; level++) {
                x.due("score " + level + " 3 " + i % 3 + " " + isVulnerable + " " + (level + 5 - i / 6), -due[i]);
            }
        }
    }

    private static void steps() {
        CHECKS.about(0, "STEPS of a difference of SCORES (without sign), by 20, 50, 90, 130, 170, 220, 270, 320, 370, "
                + "430, 500, 600, 750, 900, 1100, 1300, 1500, 1750, 2000, 2250, 2500, 3000, 3500, 4000: how many of "
                + "these it isn't below; with the sign of the difference.");
        int[] bounds = {
            20, 50, 90, 130, 170, 220, 270, 320, 370, 430, 500, 600, 750, 900, 1100, 1300, 1500, 1750, 2000, 2250,
            2500, 3000, 3500, 4000, 9000,
        };
        Run x = new Run(CHECKS).due("steps 420 420 = 0", "steps 420 410 = 0", "steps 410 420 = 0");
        for (int i = 0; i + 1 < bounds.length; i++) {
            int between = (bounds[i] + bounds[i + 1]) / 2;
            x.due("steps " + between + " 0", i + 1).due("steps 0 " + between, -i - 1);
            x.due("steps " + (between - 650) + " -650", i + 1).due("steps -650 " + (between - 650), -i - 1);
        }
    }

    /** Board 1, of SUITS, at table 0: 1440, 190, passed, -350, passed. */
    private static Run fiveResults() {
        Run x = new Run(CHECKS).deal(Deals.SUITS);
        int[] bids = {33, 3, 0, 7, 0};
        int[] winners = {0, 0, -1, 1, -1};
        for (int i = 0; i < 5; i++) {
            x.make("begin 0 1 " + i + " " + (20 + i)).calls(0, bids[i], 0, 0, 0);
            if (winners[i] != -1) {
                x.suitTricks(0, 1, winners[i], 9).make("claim 0 " + (4 - 4 * winners[i]));
            }
        }
        return x.due("count 1 = 5");
    }

    private static void points() {
        CHECKS.about(0, "POINTS of a board, in tenths: of its n results those that are not ADJUSTED are set against "
                + "each other: side 0 has 20 for each with a lesser SCORE, 10 for each other one with the same, and "
                + "10 for each that is ADJUSTED; side 1 what is left of 20 (n - 1).");
        Run x = fiveResults();
        int[] north = {80, 60, 30, 0, 30};
        for (int i = 0; i < 5; i++) {
            x.due("points " + i + " 0", north[i]).due("points " + i + " 1", 80 - north[i]);
        }
        x.due("adjust 1 50 50 = 1");
        int[] behind = {70, 40, 40, 10, 40};
        for (int i = 0; i < 5; i++) {
            x.due("points " + i + " 0", behind[i]).due("points " + i + " 1", 80 - behind[i]);
        }
    }

    private static void adjustedPoints() {
        CHECKS.about(0, "An ADJUSTED result gives each side its own PART of 100 (0 .. 100) of 20 (n - 1), cut.");
        Run x = fiveResults().due("adjust 0 60 40 = 1", "points 0 0 = 48", "points 0 1 = 32", "adjust 0 33 99 = 1");
        x.due("points 0 0 = 26", "points 0 1 = 79", "adjust 2 1 2 = 1", "points 2 0 = 0", "points 2 1 = 1");
        x.due("adjust 2 0 100 = 1", "points 2 0 = 0", "points 2 1 = 80", "adjust 3 70 70 = 1", "points 3 0 = 56");
        x.due("points 3 1 = 56").passOut(0, 1, 30, 31).due("points 3 0 = 70", "points 0 0 = 33", "points 2 1 = 100");
    }

    // ---- parts 4 and 5, and the constants

    private static void plans() {
        CHECKS.about(0, "A PLAN for t tables (3 .. 10) has t rounds, of t even t - 1: in round r (from 0 on) "
                + "at table k: pair k for side 0; for side 1 pair t + (k - r - s) modulo t; boards of set (k + r) "
                + "modulo t; s is 1 if t is even and r is t / 2 or more, else 0. (Modulo: 0 .. t - 1.)");
        // Each row is a round of 5 tables, then of 6: the pairs of side 1, then the sets.
        String[] east = {"56789", "95678", "89567", "78956", "67895"};
        String[] sets = {"01234", "12340", "23401", "34012", "40123"};
        String[] eastOfSix = {"6789AB", "B6789A", "AB6789", "89AB67", "789AB6"};
        String[] setsOfSix = {"012345", "123450", "234501", "345012", "450123"};
        Run x = new Run(CHECKS);
        for (int r = 0; r < 5; r++) {
            for (int k = 0; k < 6; k++) {
                String six = "plan 6 " + r + " " + k;
                x.due(six + " 0", k).due(six + " 1", Character.digit(eastOfSix[r].charAt(k), 16));
                x.due(six + " 2", setsOfSix[r].charAt(k) - '0');
                String five = "plan 5 " + r + " " + k;
                x.due(five + " 0", k < 5 ? k : -1).due(five + " 1", k < 5 ? east[r].charAt(k) - '0' : -1);
                x.due(five + " 2", k < 5 ? sets[r].charAt(k) - '0' : -1);
            }
        }
        x.due("plan 5 5 0 0 = -1", "plan 6 5 0 0 = -1");
    }

    private static void written() {
        CHECKS.about(0, "WRITTEN is a result: passed out as \"pass\"; else LEVEL, STRAIN (C D H S N), X if doubled, "
                + "XX if redoubled, a blank, N E S or W for the DECLARER, a blank, and = , or + and how many tricks "
                + "more, or - and how many less.");
        written(new Run(CHECKS).make("deal 1").passOut(0, 1, 0, 1), "pass");
        written(new Run(CHECKS).allTricks(0, 0, 33, 0, 0, 0), "7C N =");
        written(new Run(CHECKS).allTricks(1, 1, 24, 1, 0, 0, 0), "5DX E +2");
        written(new Run(CHECKS).allTricks(2, 2, 30, 1, 2, 0, 0, 0), "6HXX S +1");
        written(new Run(CHECKS).allTricks(3, 3, 16, 0, 0, 0), "3S W +4");
        written(new Run(CHECKS).allTricks(3, 0, 37, 1, 0, 0, 0), "7NX W -13");
    }

    private static void written(Run x, String due) {
        x.due("write 0", due.length());
        for (int i = 0; i < due.length(); i++) {
            x.due("out " + i, due.charAt(i));
        }
        x.due("out " + due.length(), -1);
    }

    private static void theConstant() {
        CHECKS.about(0, "The constants: `NONE = -1`: There is none.");
        BridgeClub x = new BridgeClub();
        CHECKS.same("NONE", BridgeClub.NONE, -1);
        CHECKS.same("hand of no board", x.hand(1, 0), BridgeClub.NONE);
        CHECKS.same("call at no table", x.call(0, 0), BridgeClub.NONE);
        CHECKS.same("place of no pair", x.place(0), BridgeClub.NONE);
    }
}
