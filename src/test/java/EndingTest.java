import java.util.Random;

/** Promises 9, 18 and 19: claim, best, bestCard. */
public final class EndingTest {
    private static final Checks CHECKS = new Checks("EndingTest");
    private static final int RANDOM_ENDINGS = 400;

    public static void main(String[] args) {
        whenItIsTold();
        oneSuitEach();
        leastCard();
        finesse();
        finesseThatFails();
        claims();
        claimInATrick();
        int endings = args.length > 0 ? Integer.parseInt(args[0]) : RANDOM_ENDINGS;
        for (int i = 0; i < endings; i++) {
            randomEnding(i);
        }
        CHECKS.end();
    }

    private static void whenItIsTold() {
        BridgeClub x = new BridgeClub();
        Deals.deal(x, Deals.SUITS);
        told(x, "nothing is played", -1, -1);
        x.begin(0, 1, 0, 1);
        told(x, "in an auction", -1, -1);
        Deals.calls(x, 0, 3, 0, 0, 0);
        told(x, "13 tricks left", -1, -1);
        CHECKS.no("claim with 13 tricks left", x.claim(0, 13));
        Deals.suitTricks(x, 0, 1, 0, 8);
        told(x, "5 tricks left", -1, -1);
        CHECKS.no("claim with 5 tricks left", x.claim(0, 5));
        x.play(0, 8);
        x.play(0, 13 + 8);
        x.play(0, 26 + 8);
        told(x, "5 tricks left, one under way", -1, -1);
        x.play(0, 39 + 8);
        told(x, "4 tricks left", 4, 9);
        CHECKS.same("best(1)", x.best(1), -1);
        CHECKS.same("best(-1)", x.best(-1), -1);
        CHECKS.same("best(10)", x.best(10), -1);
        CHECKS.same("bestCard(1)", x.bestCard(1), -1);
        CHECKS.same("bestCard(-1)", x.bestCard(-1), -1);
        CHECKS.same("bestCard(10)", x.bestCard(10), -1);
        x.back(0);
        told(x, "5 tricks left again", -1, -1);
        x.play(0, 39 + 8);
        x.leave(0);
        told(x, "left", -1, -1);
    }

    private static void told(BridgeClub x, String when, int best, int card) {
        CHECKS.same(when + ": best(0)", x.best(0), best);
        CHECKS.same(when + ": bestCard(0)", x.bestCard(0), card);
    }

    /** Who has all of a suit takes all tricks in it, unless another suit is trumps. */
    private static void oneSuitEach() {
        int[] bids = {3, 4, 5, 6, 7};
        int[] winners = {0, 1, 2, 3, 1};
        for (int i = 0; i < bids.length; i++) {
            BridgeClub x = new BridgeClub();
            Deals.deal(x, Deals.SUITS);
            x.begin(0, 1, 0, 1);
            Deals.calls(x, 0, bids[i], 0, 0, 0);
            Deals.suitTricks(x, 0, 1, winners[i], 9);
            int won = winners[i] % 2 == 0 ? 1 : 0;
            told(x, "bid " + bids[i], 4 * won, 13 * winners[i] + 9);
            for (int n = 0; n < 16; n++) {
                int seat = (winners[i] + n) % 4;
                told(x, "bid " + bids[i] + " card " + n, (4 - n / 4) * won, 13 * seat + 9 + n / 4);
                x.play(0, 13 * seat + 9 + n / 4);
            }
            told(x, "bid " + bids[i] + " behind the end", -1, -1);
        }
    }

    /** Everybody has some of each suit, so that a choice of cards is left. */
    private static void leastCard() {
        BridgeClub x = new BridgeClub();
        Deals.deal(x, Deals.ROUND);
        x.begin(0, 1, 0, 1);
        Deals.calls(x, 0, 7, 0, 0, 0);
        Brute brute = new Brute(x);
        for (int n = 0; n < 36; n++) {
            brute.play(x, brute.aCardFrom(51));
        }
        told(x, "ROUND, the highest first", brute.best(), brute.leastBest());
    }

    /**
     * Hearts are trumps; south has all but two of them, and draws them and more in nine tricks. West has
     * these two, the ace and king of clubs, and as many of the high diamonds as the spades leave room for.
     */
    private static BridgeClub heartsOut(String spades, int westsDiamonds, int... westsCards) {
        int[] seats = new int[52];
        for (int c = 0; c < 52; c++) {
            boolean isWests = c == 11 || c == 12 || c == 26 || c == 27 || c < 26 && c >= 26 - westsDiamonds;
            seats[c] = c >= 39 ? spades.charAt(c - 39) - '0' : isWests ? 3 : Deals.seat(Deals.SUITS, c);
        }
        BridgeClub x = new BridgeClub();
        Deals.deal(x, seats);
        x.begin(0, 1, 0, 1);
        Deals.calls(x, 0, 5, 0, 0, 0);
        x.play(0, 13);
        for (int k = 0; k < 9; k++) {
            x.play(0, 28 + k);
            x.play(0, westsCards[k]);
            x.play(0, k);
            if (k > 0) {
                x.play(0, 13 + k);
            }
        }
        CHECKS.same("tricks won", x.table(0, 9), 9);
        CHECKS.same("south leads", x.table(0, 4), 2);
        return x;
    }

    /** North has ace and queen of spades, west behind south the king: it is caught. */
    private static void finesse() {
        BridgeClub x = heartsOut("2233333333030", 0, 41, 26, 27, 42, 43, 44, 45, 46, 47);
        told(x, "the king is before the ace", 4, 37);
        int[] cards = {37, 11, 9, 22, 38, 12, 10, 23};
        for (int c : cards) {
            CHECKS.yes("card " + c, x.play(0, c) != -1);
        }
        told(x, "two tricks left", 2, 39);
        x.play(0, 39);
        told(x, "west cannot help it", 2, 48);
        x.play(0, 48);
        told(x, "the queen, not the ace", 2, 49);
        x.back(0);
        x.play(0, 50);
        told(x, "the ace on the king", 2, 51);
    }

    /** East has the king and another one behind north: one trick is lost. */
    private static void finesseThatFails() {
        BridgeClub x = heartsOut("2233333331010", 2, 24, 26, 27, 41, 42, 43, 44, 45, 46);
        told(x, "the king is behind the ace", 3, 37);
        int[] cards = {37, 11, 9, 22, 38, 12, 10, 23};
        for (int c : cards) {
            CHECKS.yes("card " + c, x.play(0, c) != -1);
        }
        told(x, "two tricks left", 1, 39);
        x.play(0, 39);
        x.play(0, 47);
        told(x, "either card wins one", 1, 49);
        x.play(0, 51);
        told(x, "east must keep the king", 1, 48);
        x.play(0, 48);
        told(x, "north's queen", 0, 49);
    }

    private static void claims() {
        BridgeClub x = new BridgeClub();
        Deals.deal(x, Deals.SUITS);
        CHECKS.no("claim without anything", x.claim(0, 0));
        x.begin(0, 1, 0, 1);
        CHECKS.no("claim in an auction", x.claim(0, -1));
        Deals.calls(x, 0, 3, 0, 0, 0);
        CHECKS.no("claim of NONE in play", x.claim(0, -1));
        Deals.suitTricks(x, 0, 1, 0, 9);
        for (int n : new int[] {-1, 0, 3, 5, Integer.MAX_VALUE, Integer.MIN_VALUE}) {
            CHECKS.no("claim(0, " + n + ")", x.claim(0, n));
        }
        CHECKS.no("claim(1, 4)", x.claim(1, 4));
        CHECKS.no("claim(-1, 4)", x.claim(-1, 4));
        CHECKS.no("claim(10, 4)", x.claim(10, 4));
        CHECKS.same("still in play", x.table(0, 3), 2);
        CHECKS.yes("claim(0, 4)", x.claim(0, 4));
        CHECKS.same("the result", x.count(1), 1);
        CHECKS.same("nothing is played", x.table(0, 3), 0);
        CHECKS.same("tricks", x.result(0, 7), 13);
        CHECKS.same("1 club with 6 more", x.result(0, 8), 190);
        x.begin(0, 1, 2, 3);
        CHECKS.yes("none of four", Deals.bidAndClaim(x, 0, 7, 1, 0));
        CHECKS.same("tricks", x.result(1, 7), 0);
        CHECKS.same("1 no trump, 7 less", x.result(1, 8), -350);
    }

    /** The trick under way is one of those left. */
    private static void claimInATrick() {
        BridgeClub x = new BridgeClub();
        Deals.deal(x, Deals.SUITS);
        x.begin(0, 1, 0, 1);
        Deals.calls(x, 0, 3, 0, 0, 0);
        Deals.suitTricks(x, 0, 1, 0, 10);
        x.play(0, 10);
        x.play(0, 13 + 10);
        CHECKS.same("3 tricks left", x.best(0), 3);
        CHECKS.no("claim(0, 2)", x.claim(0, 2));
        CHECKS.yes("claim(0, 3)", x.claim(0, 3));
        CHECKS.same("tricks", x.result(0, 7), 13);
    }

    /** A random deal and random cards, then everything against all that could be played. */
    private static void randomEnding(int seed) {
        Random random = new Random(seed);
        BridgeClub x = new BridgeClub();
        x.deal(random.nextInt());
        x.begin(0, 1, 0, 1);
        for (int i = 0; i < seed % 4; i++) {
            x.call(0, 0);
        }
        Deals.calls(x, 0, 3 + random.nextInt(35), 0, 0, 0);
        int cards = 36 + (seed % 3 == 0 ? random.nextInt(16) : seed % 3);
        Brute brute = new Brute(x);
        for (int n = 0; n < cards; n++) {
            brute.play(x, brute.aCardFrom(random.nextInt(52)));
        }
        int best = brute.best();
        told(x, "ending " + seed, best, brute.leastBest());
        CHECKS.no("ending " + seed + ": claim of one more", x.claim(0, best + 1));
        CHECKS.no("ending " + seed + ": claim of one less", x.claim(0, best - 1));
        CHECKS.yes("ending " + seed + ": claim", x.claim(0, best));
    }

    /** Follows the cards from the first one on, and tries every way to play those left, none passed over. */
    private static final class Brute {
        private final int[] seatOf = new int[52];
        private final int[] trick = new int[4];
        private final int trump;
        private final int side;
        private int leader;
        private int inTrick;

        /** Board 1 at table 0, behind the auction. */
        Brute(BridgeClub x) {
            for (int c = 0; c < 52; c++) {
                seatOf[c] = x.hand(1, c);
            }
            trump = x.table(0, 6);
            side = x.table(0, 7) % 2;
            leader = x.table(0, 13);
        }

        /** The next card from this one downwards (then from the highest) that may be played. */
        int aCardFrom(int card) {
            int c = card;
            for (int i = 0; i < 52 && !mayPlay((leader + inTrick) % 4, inTrick, c); i++) {
                c = (c + 51) % 52;
            }
            return c;
        }

        void play(BridgeClub x, int card) {
            CHECKS.same("play(0, " + card + ")", x.play(0, card), inTrick == 3 ? 1 : 0);
            seatOf[card] = -1;
            trick[inTrick] = card;
            inTrick++;
            if (inTrick == 4) {
                leader = (leader + highest()) % 4;
                inTrick = 0;
            }
        }

        int best() {
            return value(leader, inTrick, 0, -1);
        }

        /** The least card that gives the value; with it alone at the root the value is looked at again. */
        int leastBest() {
            int best = best();
            for (int c = 0; c < 52; c++) {
                if (mayPlay((leader + inTrick) % 4, inTrick, c) && value(leader, inTrick, 0, c) == best) {
                    return c;
                }
            }
            return -1;
        }

        private boolean mayPlay(int seat, int n, int card) {
            if (seatOf[card] != seat) {
                return false;
            }
            if (n == 0 || card / 13 == trick[0] / 13) {
                return true;
            }
            for (int c = trick[0] / 13 * 13; c < trick[0] / 13 * 13 + 13; c++) {
                if (seatOf[c] == seat) {
                    return false;
                }
            }
            return true;
        }

        private int value(int lead, int n, int depth, int only) {
            int seat = (lead + n) % 4;
            int best = -1;
            for (int c = 0; c < 52; c++) {
                if (only != -1 && c != only || !mayPlay(seat, n, c)) {
                    continue;
                }
                int kept = trick[n];
                int first = trick[0];
                int second = trick[1];
                int third = trick[2];
                seatOf[c] = -1;
                trick[n] = c;
                int v;
                if (n == 3) {
                    int winner = (lead + highest()) % 4;
                    v = (winner % 2 == side ? 1 : 0) + value(winner, 0, depth + 1, -1);
                } else {
                    v = value(lead, n + 1, depth + 1, -1);
                }
                seatOf[c] = seat;
                trick[0] = first;
                trick[1] = second;
                trick[2] = third;
                trick[n] = kept;
                boolean isBetter = seat % 2 == side ? v > best : v < best;
                best = best == -1 || isBetter ? v : best;
            }
            return Math.max(best, 0);
        }

        private int highest() {
            int at = 0;
            for (int i = 1; i < 4; i++) {
                boolean sameSuit = trick[i] / 13 == trick[at] / 13;
                if (sameSuit ? trick[i] > trick[at] : trick[i] / 13 == trump) {
                    at = i;
                }
            }
            return at;
        }
    }
}
