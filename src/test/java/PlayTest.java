/** Promises 8, 10, 12 and 14 to 17: what happens at a table once the auction has ended. */
public final class PlayTest {
    private static final Checks CHECKS = new Checks("PlayTest");

    public static void main(String[] args) {
        follows();
        trumps();
        noTrumps();
        toTheEnd();
        backs();
        sees();
        lacks();
        CHECKS.end();
    }

    /** Of ROUND: diamonds 13 .. 25 are east's, south's, west's, north's, east's and so on. */
    private static void follows() {
        BridgeClub x = inPlay(Deals.ROUND, 7);
        CHECKS.same("play of no table", x.play(1, 25), -1);
        CHECKS.same("play of table -1", x.play(-1, 25), -1);
        CHECKS.same("play of table 10", x.play(10, 25), -1);
        CHECKS.same("play(0, -1)", x.play(0, -1), -1);
        CHECKS.same("play(0, 52)", x.play(0, 52), -1);
        CHECKS.same("play of the partner's card", x.play(0, 15), -1);
        CHECKS.no("allowed(0, 15)", x.allowed(0, 15));
        CHECKS.no("allowed(0, -1)", x.allowed(0, -1));
        CHECKS.no("allowed(0, 52)", x.allowed(0, 52));
        int leads = 0;
        for (int c = 0; c < 52; c++) {
            leads += x.allowed(0, c) ? 1 : 0;
        }
        CHECKS.same("any card may be led", leads, 13);
        CHECKS.same("played(0, 0)", x.played(0, 0), -1);
        CHECKS.same("the lead", x.play(0, 25), 0);
        CHECKS.same("played(0, 0)", x.played(0, 0), 25);
        CHECKS.same("turn", x.table(0, 4), 2);
        for (int c = 0; c < 52; c++) {
            boolean due = c == 14 || c == 18 || c == 22;
            CHECKS.same("allowed(0, " + c + ")", x.allowed(0, c) ? 1 : 0, due ? 1 : 0);
        }
        CHECKS.same("south must follow", x.play(0, 2), -1);
        CHECKS.same("south", x.play(0, 22), 0);
        CHECKS.same("west", x.play(0, 15), 0);
        CHECKS.same("cards in the trick", x.table(0, 11), 3);
        CHECKS.same("north", x.play(0, 24), 1);
        tells(x, 1, 0, 1, 0, 1);
        CHECKS.same("a card that was played", x.play(0, 25), -1);
        CHECKS.same("east's heart", x.play(0, 29), 0);
        CHECKS.same("south's ace of hearts", x.play(0, 38), 0);
        CHECKS.same("west", x.play(0, 27), 0);
        tells(x, 0, 0, 1, 3, 1);
        CHECKS.same("north", x.play(0, 28), 1);
        tells(x, 2, 1, 1, 0, 2);
        CHECKS.same("played(0, 5)", x.played(0, 5), 38);
        CHECKS.same("played(0, 7)", x.played(0, 7), 28);
        CHECKS.same("played(0, 8)", x.played(0, 8), -1);
        CHECKS.same("played(0, -1)", x.played(0, -1), -1);
        CHECKS.same("played(1, 0)", x.played(1, 0), -1);
        CHECKS.same("played(-1, 0)", x.played(-1, 0), -1);
        CHECKS.same("called(0, 0)", x.called(0, 0), 7);
        CHECKS.same("a call in play", x.call(0, 0), -1);
    }

    private static void tells(BridgeClub x, int turn, int north, int east, int cards, int leader) {
        CHECKS.same("turn", x.table(0, 4), turn);
        CHECKS.same("tricks of side 0", x.table(0, 9), north);
        CHECKS.same("tricks of side 1", x.table(0, 10), east);
        CHECKS.same("cards in the trick", x.table(0, 11), cards);
        CHECKS.same("leader", x.table(0, 13), leader);
    }

    private static void trumps() {
        BridgeClub x = inPlay(Deals.SUITS, 3);
        CHECKS.same("east leads the ace", x.play(0, 25), 0);
        CHECKS.same("south's ace of hearts", x.play(0, 38), 0);
        CHECKS.same("west's ace of spades", x.play(0, 51), 0);
        CHECKS.same("north's two of clubs is a trump", x.play(0, 0), 1);
        CHECKS.same("north won", x.table(0, 9), 1);
        CHECKS.same("north leads", x.table(0, 4), 0);
        BridgeClub y = inPlay(Deals.SUITS, 6);
        CHECKS.same("east leads the two", y.play(0, 13), 0);
        CHECKS.same("south's ace is no trump", y.play(0, 38), 0);
        CHECKS.same("west's two of spades is", y.play(0, 39), 0);
        CHECKS.same("north's ace comes behind it", y.play(0, 12), 1);
        CHECKS.same("west won", y.table(0, 4), 3);
        CHECKS.same("west won", y.table(0, 10), 1);
        BridgeClub z = inPlay(Deals.ROUND, 4);
        // Diamonds are trumps and led: the highest wins.
        z.play(0, 13);
        z.play(0, 22);
        z.play(0, 19);
        CHECKS.same("north's king is the highest", z.play(0, 24), 1);
        CHECKS.same("north won", z.table(0, 4), 0);
    }

    private static void noTrumps() {
        BridgeClub x = inPlay(Deals.SUITS, 7);
        x.play(0, 13);
        x.play(0, 38);
        x.play(0, 51);
        CHECKS.same("the trick is won", x.play(0, 12), 1);
        CHECKS.same("by the two that was led", x.table(0, 4), 1);
        CHECKS.same("for side 1", x.table(0, 10), 1);
        CHECKS.same("for side 0", x.table(0, 9), 0);
    }

    private static void toTheEnd() {
        BridgeClub x = inPlay(Deals.SUITS, 33);
        CHECKS.same("twelve tricks", Deals.suitTricks(x, 0, 1, 0, 12), 1);
        CHECKS.same("won by side 0", x.table(0, 9), 12);
        CHECKS.same("played(0, 47)", x.played(0, 47), 3 * 13 + 11);
        CHECKS.same("north", x.play(0, 12), 0);
        CHECKS.same("east", x.play(0, 25), 0);
        CHECKS.same("south", x.play(0, 38), 0);
        CHECKS.same("no result yet", x.count(1), 0);
        CHECKS.same("west", x.play(0, 51), 2);
        CHECKS.same("the result", x.count(1), 1);
        CHECKS.same("nothing is played", x.table(0, 3), 0);
        CHECKS.same("played(0, 0)", x.played(0, 0), -1);
        CHECKS.no("back(0)", x.back(0));
        CHECKS.same("LEVEL", x.result(0, 3), 7);
        CHECKS.same("tricks", x.result(0, 7), 13);
        CHECKS.same("7 clubs, nobody vulnerable", x.result(0, 8), 1440);
    }

    private static void backs() {
        BridgeClub x = inPlay(Deals.SUITS, 3);
        Deals.suitTricks(x, 0, 1, 0, 2);
        CHECKS.same("two tricks", x.table(0, 9), 2);
        x.play(0, 2);
        CHECKS.yes("back of a lead", x.back(0));
        tells(x, 0, 2, 0, 0, 0);
        CHECKS.yes("back of a trick's end", x.back(0));
        tells(x, 3, 1, 0, 3, 0);
        CHECKS.yes("the card is in the hand again", x.allowed(0, 40));
        CHECKS.same("played(0, 7)", x.played(0, 7), -1);
        for (int i = 0; i < 6; i++) {
            CHECKS.yes("back", x.back(0));
        }
        tells(x, 2, 0, 0, 1, 1);
        CHECKS.yes("back of the first card", x.back(0));
        CHECKS.same("still in play", x.table(0, 3), 2);
        CHECKS.same("leader", x.table(0, 13), 1);
        CHECKS.yes("back of the auction's end", x.back(0));
        CHECKS.same("an auction", x.table(0, 3), 1);
        CHECKS.same("three calls", x.table(0, 12), 3);
        CHECKS.same("a card in an auction", x.play(0, 13), -1);
        x.call(0, 0);
        CHECKS.same("another trick", x.play(0, 14), 0);
        CHECKS.same("another lead", x.played(0, 0), 14);
    }

    private static void sees() {
        BridgeClub x = new BridgeClub();
        Deals.deal(x, Deals.SUITS);
        CHECKS.no("nothing is played", x.sees(0, 0, 0));
        x.begin(0, 1, 0, 1);
        CHECKS.yes("its own card", x.sees(0, 0, 12));
        CHECKS.no("another's card", x.sees(0, 0, 13));
        CHECKS.no("the partner's card in the auction", x.sees(0, 0, 26));
        Deals.calls(x, 0, 3, 0, 0, 0);
        CHECKS.no("dummy's card before the first card", x.sees(0, 1, 26));
        x.play(0, 13);
        CHECKS.yes("dummy's card", x.sees(0, 1, 26));
        CHECKS.yes("dummy's card, for the declarer", x.sees(0, 0, 27));
        CHECKS.yes("dummy's card, for dummy", x.sees(0, 2, 27));
        CHECKS.no("the declarer's card, for dummy", x.sees(0, 2, 0));
        CHECKS.no("the declarer's card, for a defender", x.sees(0, 3, 0));
        CHECKS.yes("the card that was played", x.sees(0, 3, 13));
        CHECKS.yes("the card that was played, for who did it", x.sees(0, 1, 13));
        CHECKS.no("the other defender's card", x.sees(0, 3, 14));
        x.play(0, 26);
        CHECKS.yes("what was dummy's", x.sees(0, 1, 26));
        CHECKS.no("sees(0, -1, 13), a card that was played", x.sees(0, -1, 13));
        CHECKS.no("sees(0, 4, 13), a card that was played", x.sees(0, 4, 13));
        x.back(0);
        x.back(0);
        CHECKS.no("dummy's card when the first one was taken back", x.sees(0, 1, 26));
        CHECKS.no("a card that was taken back", x.sees(0, 3, 13));
        CHECKS.no("sees(0, -1, 0)", x.sees(0, -1, 0));
        CHECKS.no("sees(0, 4, 0)", x.sees(0, 4, 0));
        CHECKS.no("sees(0, 0, -1)", x.sees(0, 0, -1));
        CHECKS.no("sees(0, 3, 52)", x.sees(0, 3, 52));
        CHECKS.no("sees(0, 0, 64)", x.sees(0, 0, 64));
        CHECKS.no("sees(-1, 0, 0)", x.sees(-1, 0, 0));
        CHECKS.no("sees(10, 0, 0)", x.sees(10, 0, 0));
        CHECKS.no("sees(1, 0, 0)", x.sees(1, 0, 0));
    }

    private static void lacks() {
        BridgeClub x = inPlay(Deals.SUITS, 3);
        for (int seat = 0; seat < 4; seat++) {
            for (int suit = 0; suit < 4; suit++) {
                CHECKS.no("nobody showed anything", x.lacks(0, seat, suit));
            }
        }
        x.play(0, 13);
        CHECKS.no("south has not played", x.lacks(0, 2, 1));
        x.play(0, 26);
        CHECKS.yes("south lacks diamonds", x.lacks(0, 2, 1));
        CHECKS.no("nobody asked south for clubs", x.lacks(0, 2, 0));
        CHECKS.no("the leader", x.lacks(0, 1, 1));
        CHECKS.no("west has not played", x.lacks(0, 3, 1));
        x.play(0, 39);
        x.play(0, 0);
        CHECKS.yes("west lacks diamonds", x.lacks(0, 3, 1));
        CHECKS.yes("north lacks diamonds", x.lacks(0, 0, 1));
        CHECKS.no("north has clubs", x.lacks(0, 0, 0));
        x.play(0, 1);
        x.play(0, 14);
        CHECKS.yes("east lacks clubs", x.lacks(0, 1, 0));
        CHECKS.no("south has not played", x.lacks(0, 2, 0));
        x.back(0);
        CHECKS.no("taken back", x.lacks(0, 1, 0));
        CHECKS.yes("of the first trick", x.lacks(0, 2, 1));
        CHECKS.no("lacks(0, -1, 1)", x.lacks(0, -1, 1));
        CHECKS.no("lacks(0, 4, 1)", x.lacks(0, 4, 1));
        CHECKS.no("lacks(0, 2, -1)", x.lacks(0, 2, -1));
        CHECKS.no("lacks(0, 2, 4)", x.lacks(0, 2, 4));
        CHECKS.no("lacks(1, 2, 1)", x.lacks(1, 2, 1));
        CHECKS.no("lacks(-1, 2, 1)", x.lacks(-1, 2, 1));
        CHECKS.no("lacks(10, 2, 1)", x.lacks(10, 2, 1));
        x.leave(0);
        CHECKS.no("nothing is played", x.lacks(0, 2, 1));
    }

    /** Board 1, with a bid by north at table 0 and three passes: east leads. */
    private static BridgeClub inPlay(int kind, int bid) {
        BridgeClub x = new BridgeClub();
        Deals.deal(x, kind);
        x.begin(0, 1, 0, 1);
        Deals.calls(x, 0, bid, 0, 0, 0);
        return x;
    }
}
