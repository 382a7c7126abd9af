/** Promises 6, 7, 10 to 13 and 15: what happens at a table until the auction has ended. */
public final class AuctionTest {
    private static final Checks CHECKS = new Checks("AuctionTest");

    public static void main(String[] args) {
        begins();
        beginsAgain();
        bids();
        doubles();
        ends();
        passedOut();
        declarers();
        longestAuction();
        backs();
        leaves();
        tableInAuction();
        CHECKS.end();
    }

    private static void begins() {
        BridgeClub x = new BridgeClub();
        CHECKS.no("begin without a board", x.begin(0, 1, 0, 1));
        x.deal(1);
        x.deal(2);
        x.deal(3);
        CHECKS.no("begin(-1, ..)", x.begin(-1, 1, 0, 1));
        CHECKS.no("begin(10, ..)", x.begin(10, 1, 0, 1));
        CHECKS.no("begin of board 0", x.begin(0, 0, 0, 1));
        CHECKS.no("begin of board 4", x.begin(0, 4, 0, 1));
        CHECKS.no("begin of pair -1", x.begin(0, 1, -1, 1));
        CHECKS.no("begin of pair 40", x.begin(0, 1, 40, 1));
        CHECKS.no("begin against pair -1", x.begin(0, 1, 0, -1));
        CHECKS.no("begin against pair 40", x.begin(0, 1, 0, 40));
        CHECKS.no("begin of a pair with itself", x.begin(0, 1, 5, 5));
        CHECKS.same("count(2)", x.count(2), 0);
        CHECKS.yes("a board that no table began may be swapped", x.swap(1, 0, 51));
        CHECKS.yes("begin(9, 1, 0, 39)", x.begin(9, 1, 0, 39));
        CHECKS.no("the table plays", x.begin(9, 2, 1, 2));
        CHECKS.no("the board is played", x.begin(0, 1, 1, 2));
        CHECKS.no("pair 0 plays", x.begin(0, 2, 0, 2));
        CHECKS.no("pair 0 plays, for side 1", x.begin(0, 2, 2, 0));
        CHECKS.no("pair 39 plays", x.begin(0, 2, 1, 39));
        CHECKS.no("pair 39 plays, for side 0", x.begin(0, 2, 39, 1));
        CHECKS.yes("begin(0, 2, 1, 2)", x.begin(0, 2, 1, 2));
        CHECKS.same("count(2)", x.count(2), 2);
        CHECKS.no("the board is played at table 0", x.begin(1, 2, 3, 4));
        CHECKS.no("pair 1 plays at table 0", x.begin(1, 3, 1, 4));
        CHECKS.no("pair 2 plays at table 0", x.begin(1, 3, 4, 2));
    }

    private static void beginsAgain() {
        BridgeClub x = new BridgeClub();
        x.deal(1);
        x.deal(2);
        Deals.passOut(x, 0, 1, 3, 4);
        CHECKS.same("count(1)", x.count(1), 1);
        CHECKS.no("pair 3 has played it", x.begin(0, 1, 3, 5));
        CHECKS.no("pair 3 has played it, for side 0", x.begin(0, 1, 5, 3));
        CHECKS.no("pair 4 has played it", x.begin(0, 1, 5, 4));
        CHECKS.no("pair 4 has played it, for side 1", x.begin(0, 1, 4, 5));
        CHECKS.yes("others have not", x.begin(0, 1, 5, 6));
        CHECKS.yes("another board", x.begin(1, 2, 4, 3));
        x.leave(1);
        CHECKS.yes("what was left has no result", x.begin(1, 2, 4, 3));
    }

    private static void bids() {
        BridgeClub x = started();
        CHECKS.same("call of no table", x.call(1, 0), -1);
        CHECKS.same("call of table -1", x.call(-1, 0), -1);
        CHECKS.same("call of table 10", x.call(10, 0), -1);
        CHECKS.same("call(0, -1)", x.call(0, -1), -1);
        CHECKS.same("call(0, 38)", x.call(0, 38), -1);
        CHECKS.no("allowed(0, -1)", x.allowed(0, -1));
        CHECKS.no("allowed(0, 38)", x.allowed(0, 38));
        CHECKS.no("allowed(1, 0)", x.allowed(1, 0));
        CHECKS.no("allowed(-1, 0)", x.allowed(-1, 0));
        CHECKS.yes("allowed(0, 0)", x.allowed(0, 0));
        CHECKS.yes("allowed(0, 3)", x.allowed(0, 3));
        CHECKS.yes("allowed(0, 37)", x.allowed(0, 37));
        CHECKS.same("refused calls do not count", x.table(0, 12), 0);
        CHECKS.same("call(0, 10)", x.call(0, 10), 0);
        CHECKS.no("the same bid again", x.allowed(0, 10));
        CHECKS.same("the same bid again", x.call(0, 10), -1);
        CHECKS.same("a lower bid", x.call(0, 9), -1);
        CHECKS.yes("a higher bid", x.allowed(0, 11));
        CHECKS.same("a higher bid", x.call(0, 11), 0);
        CHECKS.same("called(0, 0)", x.called(0, 0), 10);
        CHECKS.same("called(0, 1)", x.called(0, 1), 11);
        CHECKS.same("called(0, 2)", x.called(0, 2), -1);
        CHECKS.same("called(0, -1)", x.called(0, -1), -1);
        CHECKS.same("called(1, 0)", x.called(1, 0), -1);
        CHECKS.same("called(10, 0)", x.called(10, 0), -1);
        CHECKS.same("7 no trumps", x.call(0, 37), 0);
        for (int bid = 3; bid <= 37; bid++) {
            CHECKS.no("nothing is above 7 no trumps", x.allowed(0, bid));
        }
    }

    private static void doubles() {
        BridgeClub x = started();
        may(x, "at the begin", false, false);
        x.call(0, 0);
        may(x, "behind a pass", false, false);
        x.call(0, 5);
        may(x, "behind the other side's bid", true, false);
        x.call(0, 0);
        may(x, "behind the partner's bid", false, false);
        x.call(0, 0);
        may(x, "behind the other side's bid and two passes", true, false);
        CHECKS.same("double", x.call(0, 1), 0);
        may(x, "behind the other side's double", false, true);
        x.call(0, 0);
        may(x, "behind the partner's double", false, false);
        x.call(0, 0);
        may(x, "behind the other side's double and two passes", false, true);
        CHECKS.same("redouble", x.call(0, 2), 0);
        may(x, "behind the other side's redouble", false, false);
        x.call(0, 0);
        may(x, "behind the partner's redouble", false, false);
        CHECKS.same("double is refused", x.call(0, 1), -1);
        CHECKS.same("redouble is refused", x.call(0, 2), -1);
        CHECKS.same("table(0, 8)", x.table(0, 8), 2);
        x.call(0, 6);
        CHECKS.same("table(0, 8) behind a new bid", x.table(0, 8), 0);
        may(x, "behind a new bid", true, false);
    }

    private static void may(BridgeClub x, String when, boolean doubling, boolean redoubling) {
        CHECKS.same("double " + when, x.allowed(0, 1) ? 1 : 0, doubling ? 1 : 0);
        CHECKS.same("redouble " + when, x.allowed(0, 2) ? 1 : 0, redoubling ? 1 : 0);
        CHECKS.yes("pass " + when, x.allowed(0, 0));
    }

    private static void ends() {
        BridgeClub x = started();
        Deals.calls(x, 0, 0, 0, 0);
        CHECKS.same("three passes do not end it", x.table(0, 3), 1);
        CHECKS.same("a bid behind three passes", x.call(0, 3), 0);
        CHECKS.same("pass", x.call(0, 0), 0);
        CHECKS.same("pass", x.call(0, 0), 0);
        CHECKS.same("the third pass", x.call(0, 0), 1);
        CHECKS.same("call behind the auction", x.call(0, 37), -1);
        CHECKS.same("call behind the auction", x.call(0, 0), -1);
        CHECKS.same("table(0, 3)", x.table(0, 3), 2);
        CHECKS.same("table(0, 12)", x.table(0, 12), 7);
        CHECKS.same("called(0, 6)", x.called(0, 6), 0);
        CHECKS.same("called(0, 3)", x.called(0, 3), 3);
        BridgeClub y = started();
        Deals.calls(y, 0, 3, 1, 0, 0);
        CHECKS.same("a double opens three passes anew", y.call(0, 0), 1);
        CHECKS.same("doubled", y.table(0, 8), 1);
    }

    private static void passedOut() {
        BridgeClub x = started();
        CHECKS.same("pass 1", x.call(0, 0), 0);
        CHECKS.same("pass 2", x.call(0, 0), 0);
        CHECKS.same("pass 3", x.call(0, 0), 0);
        CHECKS.same("pass 4", x.call(0, 0), 2);
        CHECKS.same("count(1)", x.count(1), 1);
        CHECKS.same("count(2)", x.count(2), 0);
        CHECKS.same("table(0, 3)", x.table(0, 3), 0);
        CHECKS.same("call(0, 0)", x.call(0, 0), -1);
        CHECKS.same("called(0, 0)", x.called(0, 0), -1);
        CHECKS.no("back(0)", x.back(0));
    }

    private static void declarers() {
        declarer("the bidder", 0, 5, 0, 0, 0);
        declarer("who named it before the partner", 0, 5, 0, 20, 0, 0, 0);
        declarer("the partner who named it", 2, 3, 0, 5, 0, 0, 0, 0);
        declarer("what the other side named does not count", 2, 3, 5, 10, 0, 0, 0);
        declarer("other strains do not count", 2, 6, 0, 10, 0, 0, 0);
        declarer("the other side", 3, 0, 0, 0, 7, 0, 0, 0);
        declarer("first named long ago", 1, 3, 4, 5, 6, 0, 9, 10, 0, 0, 14, 0, 0, 0);
        declarer("first named by the partner, over the others' bid", 1, 0, 7, 8, 12, 0, 0, 0);
        BridgeClub x = started();
        Deals.calls(x, 0, 5);
        x.back(0);
        Deals.calls(x, 0, 3, 0, 5, 0, 0, 0);
        CHECKS.same("a bid that was taken back does not count", x.table(0, 7), 2);
    }

    private static void declarer(String what, int due, int... calls) {
        BridgeClub x = started();
        Deals.calls(x, 0, calls);
        CHECKS.same(what + ": ended", x.table(0, 3), 2);
        CHECKS.same(what, x.table(0, 7), due);
        CHECKS.same(what + ": the next seat leads", x.table(0, 4), (due + 1) % 4);
    }

    private static void longestAuction() {
        BridgeClub x = started();
        Deals.calls(x, 0, 0, 0, 0);
        for (int bid = 3; bid <= 37; bid++) {
            Deals.calls(x, 0, bid, 0, 0, 1, 0, 0, 2, 0);
            CHECKS.same("pass behind " + bid, x.call(0, 0), 0);
        }
        CHECKS.same("table(0, 12)", x.table(0, 12), 318);
        CHECKS.same("the last pass", x.call(0, 0), 1);
        CHECKS.same("table(0, 12)", x.table(0, 12), 319);
        CHECKS.same("called(0, 309)", x.called(0, 309), 37);
        CHECKS.same("called(0, 318)", x.called(0, 318), 0);
        CHECKS.same("called(0, 319)", x.called(0, 319), -1);
        CHECKS.same("redoubled", x.table(0, 8), 2);
        CHECKS.same("LEVEL", x.table(0, 5), 7);
        CHECKS.same("STRAIN", x.table(0, 6), 4);
    }

    private static void backs() {
        BridgeClub x = started();
        CHECKS.no("back of a table without anything", x.back(1));
        CHECKS.no("back(-1)", x.back(-1));
        CHECKS.no("back(10)", x.back(10));
        CHECKS.no("nothing was called", x.back(0));
        Deals.calls(x, 0, 3, 1);
        CHECKS.yes("back of the double", x.back(0));
        CHECKS.same("turn", x.table(0, 4), 1);
        CHECKS.same("doubled", x.table(0, 8), 0);
        CHECKS.yes("back of the bid", x.back(0));
        CHECKS.same("LEVEL", x.table(0, 5), -1);
        CHECKS.same("calls", x.table(0, 12), 0);
        CHECKS.no("nothing is left", x.back(0));
        CHECKS.same("the table still plays", x.table(0, 3), 1);
        Deals.calls(x, 0, 3, 0, 0, 0);
        CHECKS.yes("back of the auction's end", x.back(0));
        CHECKS.same("an auction again", x.table(0, 3), 1);
        CHECKS.same("turn", x.table(0, 4), 3);
        CHECKS.same("no declarer", x.table(0, 7), -1);
        CHECKS.same("another end", x.call(0, 9), 0);
        Deals.calls(x, 0, 0, 0, 0);
        CHECKS.same("declarer", x.table(0, 7), 3);
    }

    private static void leaves() {
        BridgeClub x = started();
        CHECKS.no("leave(1)", x.leave(1));
        CHECKS.no("leave(-1)", x.leave(-1));
        CHECKS.no("leave(10)", x.leave(10));
        Deals.calls(x, 0, 3, 0, 0, 0);
        CHECKS.yes("leave(0)", x.leave(0));
        CHECKS.no("leave(0) again", x.leave(0));
        CHECKS.same("no result", x.count(1), 0);
        CHECKS.same("count(2)", x.count(2), 0);
        CHECKS.same("board(1, 2)", x.board(1, 2), 0);
        CHECKS.same("board(1, 3)", x.board(1, 3), -1);
        CHECKS.yes("begin again", x.begin(0, 1, 10, 11));
        CHECKS.same("a new auction", x.table(0, 3), 1);
        CHECKS.same("without calls", x.table(0, 12), 0);
        CHECKS.same("without a bid", x.table(0, 5), -1);
        CHECKS.same("called(0, 0)", x.called(0, 0), -1);
    }

    private static void tableInAuction() {
        BridgeClub x = new BridgeClub();
        x.deal(1);
        x.deal(2);
        tells(x, "nothing", -1, -1, -1, 0, -1, -1, -1, -1, -1, -1, -1, -1, -1, -1);
        x.begin(0, 2, 8, 9);
        tells(x, "begun", 2, 8, 9, 1, 1, -1, -1, -1, -1, 0, 0, 0, 0, -1);
        x.call(0, 21);
        tells(x, "4 spades", 2, 8, 9, 1, 2, 4, 3, -1, 0, 0, 0, 0, 1, -1);
        x.call(0, 1);
        tells(x, "doubled", 2, 8, 9, 1, 3, 4, 3, -1, 1, 0, 0, 0, 2, -1);
        x.call(0, 2);
        tells(x, "redoubled", 2, 8, 9, 1, 0, 4, 3, -1, 2, 0, 0, 0, 3, -1);
        Deals.calls(x, 0, 0, 0, 0);
        tells(x, "in play", 2, 8, 9, 2, 2, 4, 3, 1, 2, 0, 0, 0, 6, 2);
        CHECKS.same("table(0, 14)", x.table(0, 14), -1);
        CHECKS.same("table(0, -1)", x.table(0, -1), -1);
        CHECKS.same("table(-1, 3)", x.table(-1, 3), -1);
        CHECKS.same("table(10, 3)", x.table(10, 3), -1);
        CHECKS.same("table(9, 3)", x.table(9, 3), 0);
    }

    private static void tells(BridgeClub x, String when, int... due) {
        for (int what = 0; what < due.length; what++) {
            CHECKS.same(when + ": table(0, " + what + ")", x.table(0, what), due[what]);
        }
    }

    /** Board 1 at table 0: north calls first. */
    private static BridgeClub started() {
        BridgeClub x = new BridgeClub();
        x.deal(1);
        x.begin(0, 1, 10, 11);
        return x;
    }
}
