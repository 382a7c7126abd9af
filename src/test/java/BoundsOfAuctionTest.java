/** The boundary cases of part 2 of the terms up to the AUCTION's end, and of promises 6, 7, 10 to 13 and 15. */
public final class BoundsOfAuctionTest {
    private static final Checks CHECKS = new Checks("BoundsOfAuctionTest");
    private static final int MIN = Integer.MIN_VALUE;
    private static final int MAX = Integer.MAX_VALUE;

    public static void main(String[] args) {
        beginAtNoSuchTable();
        beginOfNoSuchBoard();
        beginOfNoSuchPair();
        beginWhereOnePlays();
        beginOfOnePair();
        beginOfAPairThatHasPlayed();
        beginBehindTwoHundredResults();
        allTablesPlay();
        callsOfNoSuchNumber();
        bidsAboveTheLatest();
        doublesAndRedoubles();
        auctionsEnd();
        passedComesAtOnce();
        callWithoutAnAuction();
        turnsComeRound();
        contracts();
        declarers();
        declarerOfThisAuctionAlone();
        backInAnAuction();
        backOfNothing();
        leaves();
        leaveOfNothing();
        tableOfAnAuction();
        nothingElseOfATable();
        callsAreTold();
        longestAuction();
        allowedInAnAuction();
        CHECKS.end();
    }

    /** Board 1 at table 0: north calls first. */
    private static Run begun() {
        return new Run(CHECKS).make("deal 1", "begin 0 1 10 11");
    }

    private static void beginAtNoSuchTable() {
        CHECKS.about(6, "False if there is no such table, board or pair");
        Run x = new Run(CHECKS).make("deal 1", "deal 2");
        x.each("begin * 1 0 1", Run.outside(0, 9), 0);
        x.due("count 2 = 0", "board 1 3 = -1", "begin 0 1 0 1 = 1", "begin 9 2 2 3 = 1", "count 2 = 2");
    }

    private static void beginOfNoSuchBoard() {
        CHECKS.about(6, "False if there is no such table, board or pair");
        Run x = new Run(CHECKS);
        x.each("begin 0 * 0 1", Run.range(-1, 37), 0);
        x.make("deal 1", "deal 2").each("begin 0 * 0 1", Run.outside(1, 2), 0);
        x.due("count 2 = 0", "begin 0 2 0 1 = 1", "begin 1 1 2 3 = 1", "table 0 0 = 2", "table 1 0 = 1");
    }

    private static void beginOfNoSuchPair() {
        CHECKS.about(6, "False if there is no such table, board or pair");
        Run x = new Run(CHECKS).make("deal 1", "deal 2");
        x.each("begin 0 1 * 1", Run.outside(0, 39), 0);
        x.each("begin 0 1 1 *", Run.outside(0, 39), 0);
        x.each("begin 0 1 * *", Run.outside(0, 39), 0);
        x.due("count 2 = 0", "begin 0 1 0 39 = 1", "table 0 1 = 0", "table 0 2 = 39");
        x.due("leave 0 = 1", "begin 0 1 39 0 = 1", "table 0 1 = 39", "table 0 2 = 0");
    }

    private static void beginWhereOnePlays() {
        CHECKS.about(6, "one plays (the table, the board, a pair)");
        Run x = new Run(CHECKS).make("deal 1", "deal 2", "deal 3").due("begin 9 1 0 39 = 1");
        x.due("begin 9 2 1 2 = 0", "begin 0 1 1 2 = 0", "begin 0 2 0 2 = 0", "begin 0 2 2 0 = 0");
        x.due("begin 0 2 1 39 = 0", "begin 0 2 39 1 = 0", "begin 0 2 0 39 = 0", "begin 0 2 39 0 = 0");
        x.due("begin 9 1 0 39 = 0", "count 2 = 1", "table 9 0 = 1", "table 9 1 = 0", "table 9 2 = 39");
        x.due("begin 0 2 1 38 = 1", "begin 1 2 2 3 = 0", "begin 1 3 1 3 = 0", "begin 1 3 3 38 = 0", "count 2 = 2");
        // In PLAY it is as in an AUCTION, and behind the result all are free.
        x.calls(9, 3, 0, 0, 0).due("table 9 3 = 2", "begin 9 3 4 5 = 0", "begin 1 1 4 5 = 0", "begin 1 3 0 5 = 0");
        x.due("leave 9 = 1", "begin 9 3 0 39 = 1", "begin 1 1 4 5 = 1");
        x.calls(1, 0, 0, 0, 0).due("begin 1 1 6 7 = 1", "begin 2 2 4 5 = 0", "leave 0 = 1", "begin 2 2 4 5 = 1");
    }

    private static void beginOfOnePair() {
        CHECKS.about(6, "both pairs are one");
        Run x = new Run(CHECKS).make("deal 1");
        x.each("begin 0 1 * *", Run.range(0, 39), 0);
        x.due("count 2 = 0", "begin 0 1 38 39 = 1");
    }

    private static void beginOfAPairThatHasPlayed() {
        CHECKS.about(6, "a pair has played the board (for whatever side)");
        Run x = new Run(CHECKS).make("deal 1", "deal 2").passOut(0, 1, 0, 39);
        x.due("begin 0 1 0 5 = 0", "begin 0 1 5 0 = 0", "begin 0 1 39 5 = 0", "begin 0 1 5 39 = 0");
        x.due("begin 0 1 0 39 = 0", "begin 0 1 39 0 = 0", "begin 0 2 39 0 = 1", "begin 1 1 5 6 = 1");
        x.calls(1, 0, 0, 0, 0).due("begin 1 1 0 7 = 0", "begin 1 1 7 5 = 0", "begin 1 1 6 7 = 0", "begin 1 1 7 8 = 1");
        // An ADJUSTED result is one, too; what was left is none.
        x.due("leave 1 = 1", "begin 1 1 8 7 = 1", "leave 1 = 1", "adjust 0 0 0 = 1", "begin 1 1 0 7 = 0");
        // Once all 40 pairs have a result of it there is nobody left to play it.
        Run y = new Run(CHECKS).make("deal 1", "deal 2");
        for (int i = 0; i < 20; i++) {
            y.passOut(0, 1, i, 39 - i);
        }
        y.each("begin 0 1 * 0", Run.range(1, 39), 0).each("begin 0 1 39 *", Run.range(0, 38), 0);
        y.due("count 1 = 20", "count 3 = 40", "begin 0 2 0 39 = 1");
    }

    /** These take more than the 512 calls for which something is promised; the sentence is kept there, too. */
    private static void beginBehindTwoHundredResults() {
        CHECKS.about(6, "or 200 results came");
        BridgeClub x = new BridgeClub();
        for (int b = 1; b <= 12; b++) {
            x.deal(b);
        }
        for (int i = 0; i < 199; i++) {
            Deals.passOut(x, i % 10, 1 + i / 20, i % 20, 20 + (i + i / 20) % 20);
        }
        CHECKS.same("results", x.count(1), 199);
        CHECKS.yes("begin with 199 results", x.begin(0, 11, 0, 1));
        CHECKS.yes("another one", x.begin(9, 12, 2, 3));
        Deals.calls(x, 0, 0, 0, 0, 0);
        CHECKS.same("results", x.count(1), 200);
        CHECKS.no("begin with 200 results", x.begin(0, 11, 4, 5));
        CHECKS.yes("the board was not begun", x.board(11, 3) == -1);
        Deals.calls(x, 9, 0, 0, 0, 0);
        CHECKS.same("what was begun before brings its result", x.count(1), 201);
        CHECKS.same("its board", x.result(200, 0), 12);
        CHECKS.no("begin with 201 results", x.begin(0, 11, 4, 5));
    }

    private static void allTablesPlay() {
        CHECKS.about(0, "TABLES 0 .. 9 play one board each at a time");
        Run x = new Run(CHECKS);
        for (int i = 0; i <= 11; i++) {
            x.make("deal " + i);
        }
        for (int t = 0; t <= 9; t++) {
            x.due("begin " + t + " " + (t + 1) + " " + t + " " + (39 - t) + " = 1", "count 2 = " + (t + 1));
        }
        x.each("begin * 11 20 21", Run.range(-1, 10), 0).due("count 2 = 10");
        for (int t = 0; t <= 9; t++) {
            x.due("table " + t + " 0 = " + (t + 1), "table " + t + " 1 = " + t, "table " + t + " 2 = " + (39 - t));
        }
        x.due("leave 9 = 1", "count 2 = 9", "begin 9 11 20 21 = 1").calls(0, 0, 0, 0, 0).due("count 2 = 9");
    }

    private static void callsOfNoSuchNumber() {
        CHECKS.about(0, "3 + 5 (LEVEL - 1) + STRAIN a BID (LEVEL 1 .. 7; STRAIN 0 .. 3 the suits, 4 no trumps)");
        Run x = begun();
        x.each("call 0 *", Run.outside(0, 37), -1).each("allowed 0 *", Run.outside(0, 37), 0);
        x.due("table 0 12 = 0", "table 0 4 = 0", "called 0 0 = -1");
        for (int bid = 3; bid <= 37; bid++) {
            x.due("call 0 " + bid + " = 0", "table 0 5 = " + (bid + 2) / 5, "table 0 6 = " + (bid + 2) % 5);
            x.due("back 0 = 1");
        }
        x.due("call 0 0 = 0", "call 0 37 = 0", "table 0 5 = 7", "table 0 6 = 4");
        x.each("call 0 *", Run.outside(0, 37), -1).due("table 0 12 = 2");
    }

    private static void bidsAboveTheLatest() {
        CHECKS.about(0, "A BID must be above the latest BID");
        for (int latest = 3; latest <= 37; latest++) {
            Run x = begun().due("call 0 " + latest + " = 0");
            for (int bid = 3; bid <= 37; bid++) {
                x.due("allowed 0 " + bid, bid > latest ? 1 : 0);
            }
            x.due("call 0 " + latest + " = -1");
            x.due("call 0 " + Math.max(latest - 1, 3) + " = -1");
            x.due("call 0 1 = 0", "call 0 " + latest + " = -1", "call 0 2 = 0", "call 0 " + latest + " = -1");
            x.due("table 0 12 = 3", "call 0 0 = 0", "call 0 " + latest + " = -1");
            x.due("call 0 " + (latest + 1), latest == 37 ? -1 : 0);
        }
    }

    private static void doublesAndRedoubles() {
        CHECKS.about(0, "double is allowed when the latest call that isn't a pass is a BID of the other side; "
                + "redouble when that is a double of the other side");
        String[] rows = {
            // the calls so far, and whether double and redouble are allowed then
            ": 0 0", "0: 0 0", "0 0: 0 0", "0 0 0: 0 0",
            "3: 1 0", "3 0: 0 0", "3 0 0: 1 0", "0 3: 1 0", "0 0 0 3 0 0: 1 0", "0 0 0 3 0: 0 0",
            "3 1: 0 1", "3 1 0: 0 0", "3 1 0 0: 0 1", "3 0 0 1: 0 1", "3 0 0 1 0: 0 0", "3 0 0 1 0 0: 0 1",
            "3 1 2: 0 0", "3 1 2 0: 0 0", "3 1 2 0 0: 0 0", "3 1 0 0 2: 0 0", "3 1 0 0 2 0 0: 0 0",
            "3 1 4: 1 0", "3 1 4 0: 0 0", "3 1 4 0 0: 1 0", "3 1 0 4: 1 0", "3 1 2 4: 1 0", "3 1 2 4 0: 0 0",
            "3 4: 1 0", "3 4 0: 0 0", "3 4 0 0: 1 0", "3 0 4: 1 0", "37: 1 0", "37 1: 0 1", "37 1 2: 0 0",
        };
        for (String row : rows) {
            String[] halves = row.split(":");
            Run x = begun();
            for (String call : halves[0].trim().split(" ")) {
                x.make(call.isEmpty() ? "count 0" : "call 0 " + call);
            }
            String[] due = halves[1].trim().split(" ");
            x.due("allowed 0 1 = " + due[0], "allowed 0 2 = " + due[1], "allowed 0 0 = 1");
            int refused = due[0].equals("0") ? 1 : 2;
            long length = x.ask("table 0 12");
            x.due("call 0 " + refused + " = -1", "table 0 12 = " + length);
            for (int call = 1; call <= 2; call++) {
                x.again().due("call 0 " + call, due[call - 1].equals("1") ? 0 : -1);
            }
        }
    }

    private static void auctionsEnd() {
        CHECKS.about(0, "The AUCTION ends with the third pass behind another call that isn't one, "
                + "or with four passes at its begin");
        String[] rows = {
            "0 0 0 0: 0 0 0 2", "3 0 0 0: 0 0 0 1", "0 3 0 0 0: 0 0 0 0 1", "0 0 3 0 0 0: 0 0 0 0 0 1",
            "0 0 0 3 0 0 0: 0 0 0 0 0 0 1", "37 0 0 0: 0 0 0 1", "3 1 0 0 0: 0 0 0 0 1", "3 1 2 0 0 0: 0 0 0 0 0 1",
            "3 0 0 1 0 0 0: 0 0 0 0 0 0 1", "3 0 0 1 0 0 2 0 0 0: 0 0 0 0 0 0 0 0 0 1",
            "3 0 0 4 0 0 5 0 0 0: 0 0 0 0 0 0 0 0 0 1", "3 0 4 0 0 0: 0 0 0 0 0 1",
        };
        for (String row : rows) {
            String[] halves = row.split(": ");
            String[] calls = halves[0].split(" ");
            String[] answers = halves[1].split(" ");
            Run x = begun();
            for (int i = 0; i < calls.length; i++) {
                x.due("call 0 " + calls[i] + " = " + answers[i]);
                x.due("table 0 3", answers[i].equals("0") ? 1 : answers[i].equals("1") ? 2 : 0);
            }
            x.due("call 0 0 = -1", "call 0 37 = -1");
        }
    }

    private static void passedComesAtOnce() {
        CHECKS.about(0, "the board is PASSED: its result comes at once");
        Run x = begun().calls(0, 0, 0, 0).due("count 1 = 0", "table 0 3 = 1", "call 0 0 = 2");
        x.due("count 1 = 1", "count 2 = 0", "count 3 = 2", "board 1 2 = 1", "board 1 3 = -1", "table 0 3 = 0");
        x.due("table 0 0 = -1", "called 0 0 = -1", "back 0 = 0", "leave 0 = 0", "result 0 0 = 1", "result 0 3 = 0");
        // Three passes and the fourth taken back are none.
        Run y = begun().calls(0, 0, 0, 0).due("back 0 = 1", "call 0 0 = 0", "call 0 3 = 0", "call 0 0 = 0");
        y.due("call 0 0 = 0", "call 0 0 = 1", "count 1 = 0");
    }

    private static void callWithoutAnAuction() {
        CHECKS.about(7, "NONE if there is no AUCTION under way at the table, or the CALL isn't allowed.");
        Run x = begun();
        x.each("call * 0", Run.outside(0, 9), -1).each("call * 0", Run.range(1, 9), -1);
        x.due("table 0 12 = 0").calls(0, 3, 0, 0, 0).due("table 0 12 = 4");
        x.each("call 0 *", Run.range(0, 37), -1).each("call 0 *", Run.outside(0, 37), -1);
        x.due("table 0 12 = 4", "table 0 3 = 2", "played 0 0 = -1", "leave 0 = 1", "call 0 0 = -1", "call 0 3 = -1");
    }

    private static void turnsComeRound() {
        CHECKS.about(0, "The dealer calls first, then the next seat, and so on.");
        Run x = new Run(CHECKS).make("deal 1", "deal 2", "deal 3", "deal 4");
        for (int b = 1; b <= 4; b++) {
            x.make("begin " + b + " " + b + " " + b + " " + (10 + b));
            for (int i = 0; i < 9; i++) {
                x.due("table " + b + " 4 = " + (b - 1 + i) % 4, "call " + b + " " + (3 + i) + " = 0");
            }
        }
    }

    private static void contracts() {
        CHECKS.about(0, "The CONTRACT is the latest BID, doubled or redoubled if that came behind it");
        contract(1, 0, 0, 3, 0, 0, 0);
        contract(1, 0, 1, 3, 1, 0, 0, 0);
        contract(1, 0, 1, 3, 0, 0, 1, 0, 0, 0);
        contract(1, 0, 2, 3, 1, 2, 0, 0, 0);
        contract(1, 0, 2, 3, 0, 0, 1, 0, 0, 2, 0, 0, 0);
        contract(1, 1, 0, 3, 1, 4, 0, 0, 0);
        contract(1, 1, 0, 3, 1, 2, 4, 0, 0, 0);
        contract(1, 1, 1, 3, 1, 2, 4, 1, 0, 0, 0);
        contract(7, 4, 0, 3, 1, 0, 0, 2, 37, 0, 0, 0);
        contract(7, 4, 2, 0, 0, 0, 37, 1, 2, 0, 0, 0);
    }

    private static void contract(int level, int strain, int doubled, int... calls) {
        Run x = begun().calls(0, calls).due("table 0 3 = 2", "table 0 5 = " + level, "table 0 6 = " + strain);
        x.due("table 0 8 = " + doubled);
    }

    private static void declarers() {
        CHECKS.about(0, "the DECLARER is that seat of the side which bid it that named its STRAIN first");
        declarer(0, 3, 0, 0, 0);
        declarer(1, 0, 3, 0, 0, 0);
        declarer(2, 0, 0, 3, 0, 0, 0);
        declarer(3, 0, 0, 0, 3, 0, 0, 0);
        declarer(0, 37, 0, 0, 0);
        declarer(0, 3, 0, 8, 0, 0, 0);
        declarer(0, 3, 4, 8, 0, 0, 0);
        declarer(2, 3, 4, 9, 0, 0, 0);
        declarer(1, 4, 9, 0, 0, 0);
        declarer(2, 3, 0, 4, 0, 9, 0, 0, 0);
        declarer(0, 3, 1, 8, 0, 0, 0);
        declarer(0, 3, 1, 2, 0, 8, 0, 0, 0);
        declarer(1, 0, 7, 0, 12, 0, 0, 0);
        declarer(3, 7, 0, 0, 12, 0, 17, 0, 0, 0);
        // The strain's number must not be taken for a level's: 1 spade, 2 clubs, 2 spades.
        declarer(2, 3, 0, 6, 0, 11, 0, 0, 0);
    }

    private static void declarer(int due, int... calls) {
        Run x = begun().calls(0, calls).due("table 0 3 = 2", "table 0 7 = " + due);
        x.due("table 0 4 = " + (due + 1) % 4, "table 0 13 = " + (due + 1) % 4);
    }

    private static void declarerOfThisAuctionAlone() {
        CHECKS.about(0, "(in this AUCTION)");
        Run x = begun().calls(0, 3).due("leave 0 = 1", "begin 0 1 10 11 = 1").calls(0, 0, 0, 3, 0, 0, 0);
        x.due("table 0 7 = 2", "back 0 = 1", "back 0 = 1", "back 0 = 1", "back 0 = 1", "table 0 12 = 2");
        x.calls(0, 0, 3, 0, 0, 0).due("table 0 7 = 3");
        Run y = begun().calls(0, 3).due("back 0 = 1").calls(0, 4, 0, 8, 0, 0, 0).due("table 0 7 = 2");
        y.due("leave 0 = 1", "begin 0 1 10 11 = 1", "table 0 7 = -1", "table 0 5 = -1", "table 0 12 = 0");
    }

    private static void backInAnAuction() {
        CHECKS.about(0, "the latest call or card of what is played at a table goes (an AUCTION's end, too)");
        Run x = begun().calls(0, 0, 3, 1, 2, 0, 0).due("table 0 8 = 2", "call 0 0 = 1", "table 0 3 = 2");
        x.due("back 0 = 1", "table 0 3 = 1", "table 0 7 = -1", "table 0 13 = -1", "table 0 12 = 6", "table 0 4 = 2");
        x.due("call 0 2 = -1", "call 0 0 = 1", "back 0 = 1", "back 0 = 1", "back 0 = 1", "table 0 8 = 2");
        x.due("back 0 = 1", "table 0 8 = 1", "allowed 0 2 = 1", "back 0 = 1", "table 0 8 = 0", "allowed 0 1 = 1");
        x.due("called 0 2 = -1", "called 0 1 = 3", "back 0 = 1", "table 0 8 = -1", "table 0 5 = -1", "table 0 6 = -1");
        x.due("allowed 0 3 = 1", "table 0 12 = 1", "back 0 = 1", "table 0 12 = 0", "table 0 4 = 0", "back 0 = 0");
        x.due("table 0 3 = 1", "board 1 3 = 0", "call 0 0 = 0", "called 0 0 = 0");
    }

    private static void backOfNothing() {
        CHECKS.about(10, "false if there is nothing");
        Run x = begun();
        x.each("back *", Run.outside(0, 9), 0).each("back *", Run.range(0, 9), 0);
        x.due("table 0 3 = 1", "call 0 3 = 0").each("back *", Run.range(1, 9), 0).due("table 0 12 = 1", "leave 0 = 1");
        x.due("back 0 = 0", "begin 0 1 10 11 = 1", "back 0 = 0").calls(0, 0, 0, 0, 0);
        x.due("count 1 = 1", "back 0 = 0", "count 1 = 1");
    }

    private static void leaves() {
        CHECKS.about(11, "What is played at a table goes without a result: true");
        Run x = new Run(CHECKS).make("deal 1", "deal 2", "begin 9 1 0 39", "begin 0 2 1 2");
        x.due("leave 9 = 1", "table 9 3 = 0", "table 9 0 = -1", "table 9 1 = -1", "board 1 3 = -1", "count 2 = 1");
        x.due("count 1 = 0", "count 3 = 0", "board 1 2 = 0", "begin 9 1 39 0 = 1");
        x.calls(9, 3, 0, 0, 0).due("table 9 3 = 2", "leave 9 = 1", "called 9 0 = -1", "count 1 = 0");
        x.due("begin 9 1 0 39 = 1", "table 9 3 = 1", "table 9 12 = 0", "table 9 8 = -1", "table 9 4 = 0");
        x.due("leave 0 = 1", "leave 9 = 1", "count 2 = 0");
    }

    private static void leaveOfNothing() {
        CHECKS.about(11, "false if there is nothing");
        Run x = begun();
        x.each("leave *", Run.outside(0, 9), 0).each("leave *", Run.range(1, 9), 0);
        x.due("count 2 = 1", "leave 0 = 1", "leave 0 = 0", "begin 0 1 10 11 = 1").calls(0, 0, 0, 0, 0);
        x.due("leave 0 = 0", "count 1 = 1");
    }

    /** Each row has what table(9, 0 .. 13) tells. */
    private static void tableOfAnAuction() {
        CHECKS.about(12, "(5, 6, 8 of an AUCTION: of the latest BID; 7 behind the AUCTION alone; "
                + "9 to 11 of an AUCTION: 0; 13 in PLAY.)");
        Run x = new Run(CHECKS).make("deal 1", "deal 1", "deal 1", "deal 1", "begin 9 4 39 0");
        tells(x, 4, 39, 0, 1, 3, -1, -1, -1, -1, 0, 0, 0, 0, -1);
        tells(x.calls(9, 0), 4, 39, 0, 1, 0, -1, -1, -1, -1, 0, 0, 0, 1, -1);
        tells(x.calls(9, 3), 4, 39, 0, 1, 1, 1, 0, -1, 0, 0, 0, 0, 2, -1);
        tells(x.calls(9, 1), 4, 39, 0, 1, 2, 1, 0, -1, 1, 0, 0, 0, 3, -1);
        tells(x.calls(9, 2), 4, 39, 0, 1, 3, 1, 0, -1, 2, 0, 0, 0, 4, -1);
        tells(x.calls(9, 0), 4, 39, 0, 1, 0, 1, 0, -1, 2, 0, 0, 0, 5, -1);
        tells(x.calls(9, 37), 4, 39, 0, 1, 1, 7, 4, -1, 0, 0, 0, 0, 6, -1);
        tells(x.calls(9, 1, 0, 0), 4, 39, 0, 1, 0, 7, 4, -1, 1, 0, 0, 0, 9, -1);
        tells(x.calls(9, 0), 4, 39, 0, 2, 1, 7, 4, 0, 1, 0, 0, 0, 10, 1);
        x.ask("leave 9");
        tells(x, -1, -1, -1, 0, -1, -1, -1, -1, -1, -1, -1, -1, -1, -1);
    }

    private static void tells(Run x, int... due) {
        for (int what = 0; what < due.length; what++) {
            x.due("table 9 " + what, due[what]);
        }
    }

    private static void nothingElseOfATable() {
        CHECKS.about(12, "NONE for others, or where there is none such.");
        Run x = begun().calls(0, 3);
        x.each("table 0 *", Run.outside(0, 13), -1).each("table 1 *", Run.outside(0, 13), -1);
        for (int what = 0; what <= 13; what++) {
            x.each("table * " + what, Run.outside(0, 9), -1);
        }
        x.each("table * 3", Run.range(1, 9), 0).each("table * 12", Run.range(1, 9), -1);
        x.calls(0, 0, 0, 0).each("table 0 *", Run.outside(0, 13), -1);
    }

    private static void callsAreTold() {
        CHECKS.about(13, "Call i of the AUCTION of what is played at a table; NONE.");
        Run x = begun().due("called 0 0 = -1").calls(0, 37).due("called 0 0 = 37", "called 0 1 = -1");
        x.calls(0, 1, 0).due("called 0 0 = 37", "called 0 1 = 1", "called 0 2 = 0", "called 0 3 = -1");
        x.each("called 0 *", Run.outside(0, 2), -1).each("called * 0", Run.outside(0, 9), -1);
        x.each("called * 0", Run.range(1, 9), -1).calls(0, 0, 0).due("table 0 3 = 2", "called 0 4 = 0");
        x.each("called 0 *", Run.outside(0, 4), -1).each("called 0 *", new int[] {MIN, -1, 5, 318, 319, MAX}, -1);
        x.due("back 0 = 1", "called 0 4 = -1", "called 0 3 = 0", "leave 0 = 1", "called 0 0 = -1");
    }

    /** Each bid with two passes, a double, two passes, a redouble, two passes: 319 calls in all. */
    private static void longestAuction() {
        CHECKS.about(13, "Call i of the AUCTION of what is played at a table; NONE.");
        Run x = begun().calls(0, 0, 0, 0);
        for (int bid = 3; bid <= 37; bid++) {
            x.calls(0, bid, 0, 0, 1, 0, 0, 2, 0, 0);
        }
        x.due("table 0 12 = 318", "table 0 3 = 1", "called 0 317 = 0", "called 0 318 = -1", "table 0 4 = 2");
        x.due("allowed 0 0 = 1", "allowed 0 1 = 0", "allowed 0 2 = 0", "allowed 0 37 = 0", "call 0 0 = 1");
        x.due("table 0 12 = 319", "called 0 318 = 0", "called 0 319 = -1", "called 0 309 = 37", "called 0 312 = 1");
        x.due("called 0 315 = 2", "table 0 5 = 7", "table 0 6 = 4", "table 0 8 = 2", "back 0 = 1", "table 0 12 = 318");
        x.due("call 0 0 = 1", "table 0 7 = 3", "table 0 13 = 0");
    }

    private static void allowedInAnAuction() {
        CHECKS.about(15, "Whether a call (in an AUCTION) or a card (in PLAY) is allowed at a table now.");
        Run x = begun();
        x.due("allowed 0 0 = 1", "allowed 0 1 = 0", "allowed 0 2 = 0");
        x.each("allowed 0 *", Run.range(3, 37), 1).each("allowed 0 *", Run.range(38, 52), 0);
        x.each("allowed * 0", Run.outside(0, 9), 0).each("allowed * 0", Run.range(1, 9), 0);
        x.calls(0, 37).each("allowed 0 *", Run.range(2, 52), 0).due("allowed 0 0 = 1", "allowed 0 1 = 1");
        x.each("allowed 0 *", Run.outside(0, 37), 0).due("table 0 12 = 1", "leave 0 = 1", "allowed 0 0 = 0");
    }
}
