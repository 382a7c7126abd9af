/** Deals that the tests know by heart, and ways to play them within few calls. */
final class Deals {
    /** North has the clubs, east the diamonds, south the hearts, west the spades. */
    static final int SUITS = 0;
    /** Card of suit s and rank r is seat (s + r) modulo 4's: everybody has three or four of each suit. */
    static final int ROUND = 1;

    private Deals() {
    }

    static int seat(int kind, int card) {
        return kind == SUITS ? card / 13 : (card / 13 + card % 13) % 4;
    }

    static int deal(BridgeClub club, int kind) {
        int[] wanted = new int[52];
        for (int c = 0; c < 52; c++) {
            wanted[c] = seat(kind, c);
        }
        return deal(club, wanted);
    }

    /** Deals a new board and swaps its cards until each is at the seat where it is wanted. */
    static int deal(BridgeClub club, int[] wanted) {
        int board = club.deal(7);
        int[] seats = new int[52];
        for (int c = 0; c < 52; c++) {
            seats[c] = club.hand(board, c);
        }
        for (int c = 0; c < 52; c++) {
            for (int d = c + 1; d < 52 && seats[c] != wanted[c]; d++) {
                if (seats[d] == wanted[c]) {
                    club.swap(board, c, d);
                    seats[d] = seats[c];
                    seats[c] = wanted[c];
                }
            }
        }
        return board;
    }

    static void calls(BridgeClub club, int table, int... calls) {
        for (int c : calls) {
            club.call(table, c);
        }
    }

    /** Plays tricks of a SUITS board, the first led by one seat, the others by the one that wins them all. */
    static int suitTricks(BridgeClub club, int table, int leader, int winner, int tricks) {
        int last = -9;
        for (int k = 0; k < tricks; k++) {
            for (int i = 0; i < 4; i++) {
                int seat = ((k == 0 ? leader : winner) + i) % 4;
                last = club.play(table, 13 * seat + k);
            }
        }
        return last;
    }

    /** Four passes: the shortest way to a result. */
    static void passOut(BridgeClub club, int table, int board, int north, int east) {
        club.begin(table, board, north, east);
        calls(club, table, 0, 0, 0, 0);
    }

    /** A bid by the dealer of a SUITS board and three passes, then all tricks but four, and a claim. */
    static boolean bidAndClaim(BridgeClub club, int table, int bid, int winner, int claimed) {
        int dealer = club.table(table, 4);
        calls(club, table, bid, 0, 0, 0);
        suitTricks(club, table, (dealer + 1) % 4, winner, 9);
        return club.claim(table, claimed);
    }
}
