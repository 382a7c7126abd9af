import java.util.ArrayList;
import java.util.List;

/** Deals that the tests know by heart, and ways to play them within few calls. */
final class Deals {
    /** North has the clubs, east the diamonds, south the hearts, west the spades. */
    static final int SUITS = 0;
    /** Card of suit s and rank r is seat (s + r) modulo 4's: everybody has three or four of each suit. */
    static final int ROUND = 1;
    /** What the boards are dealt by before their cards are swapped. */
    static final int SEED = 7;

    private Deals() {
    }

    static int seat(int kind, int card) {
        return kind == SUITS ? card / 13 : (card / 13 + card % 13) % 4;
    }

    static int[] seats(int kind) {
        int[] wanted = new int[52];
        for (int c = 0; c < 52; c++) {
            wanted[c] = seat(kind, c);
        }
        return wanted;
    }

    static int deal(BridgeClub club, int kind) {
        return deal(club, seats(kind));
    }

    /** Deals a new board and swaps its cards until each is at the seat where it is wanted. */
    static int deal(BridgeClub club, int[] wanted) {
        int board = club.deal(SEED);
        for (int[] two : swapsTo(wanted)) {
            club.swap(board, two[0], two[1]);
        }
        return board;
    }

    /** The swaps that bring each card of a board that was dealt by SEED to the seat where it is wanted. */
    static List<int[]> swapsTo(int[] wanted) {
        PlainClub plain = new PlainClub();
        plain.deal(SEED);
        int[] seats = new int[52];
        for (int c = 0; c < 52; c++) {
            seats[c] = plain.hand(1, c);
        }
        List<int[]> swaps = new ArrayList<>();
        for (int c = 0; c < 52; c++) {
            for (int d = c + 1; d < 52 && seats[c] != wanted[c]; d++) {
                if (seats[d] == wanted[c]) {
                    swaps.add(new int[] {c, d});
                    seats[d] = seats[c];
                    seats[c] = wanted[c];
                }
            }
        }
        return swaps;
    }

    static void calls(BridgeClub club, int table, int... calls) {
        for (int c : calls) {
            club.call(table, c);
        }
    }

    /** The tricks of a SUITS board, the first led by one seat, the others by the one that wins them all. */
    static List<int[]> suitCards(int leader, int winner, int tricks) {
        List<int[]> all = new ArrayList<>();
        for (int k = 0; k < tricks; k++) {
            int[] trick = new int[4];
            for (int i = 0; i < 4; i++) {
                trick[i] = 13 * (((k == 0 ? leader : winner) + i) % 4) + k;
            }
            all.add(trick);
        }
        return all;
    }

    static int suitTricks(BridgeClub club, int table, int leader, int winner, int tricks) {
        int last = -9;
        for (int[] trick : suitCards(leader, winner, tricks)) {
            for (int card : trick) {
                last = club.play(table, card);
            }
        }
        return last;
    }

    /** Four passes: the shortest way to a result. */
    static void passOut(BridgeClub club, int table, int board, int north, int east) {
        club.begin(table, board, north, east);
        calls(club, table, 0, 0, 0, 0);
    }

    /** A bid by the dealer of a SUITS board and three passes, then all tricks but four, and a claim. */
    static boolean bidAndClaim(BridgeClub club, int table, int bid, int winner, int claimed) {
        int dealer = club.table(table, 4);
        calls(club, table, bid, 0, 0, 0);
        suitTricks(club, table, (dealer + 1) % 4, winner, 9);
        return club.claim(table, claimed);
    }
}
