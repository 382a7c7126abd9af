import java.util.List;

/**
 * What the document's first sentence tells, in one evening: three tables, three boards, three rounds by a PLAN, in
 * each of which the tables play at the same time, card by card. All numbers are worked out by hand.
 */
public final class EveningTest {
    private static final Checks CHECKS = new Checks("EveningTest");

    /** For each round and table the calls; on SUITS boards who has the trumps takes all tricks. */
    private static final int[][][] CALLS = {
        {{33, 0, 0, 0}, {4, 0, 0, 0}, {20, 0, 0, 0}},
        {{0, 0, 0, 0}, {0, 0, 0, 0}, {0, 0, 0, 0}},
        {{0, 21, 0, 0, 0}, {0, 34, 1, 0, 0, 0}, {0, 0, 0, 0}},
    };
    /** Who leads first and who wins all tricks, at each of these tables; none where the board is passed. */
    private static final int[][][] TRICKS = {
        {{1, 0}, {2, 1}, {3, 2}},
        {{}, {}, {}},
        {{0, 3}, {2, 1}, {}},
    };
    private static final String[] WRITTEN = {
        "7C N =", "1D E +6", "4H S +3", "pass", "pass", "pass", "4S W +3", "7DX E =", "pass",
    };
    private static final int[] BOARDS = {1, 2, 3, 2, 3, 1, 3, 1, 2};
    private static final int[] SCORES = {1440, -190, 510, 0, 0, 0, -710, -1630, 0};
    private static final int[] POINTS_OF_NORTH = {40, 0, 40, 30, 20, 20, 0, 0, 30};
    private static final int[] TOTALS = {70, 20, 90, 30, 100, 50};
    private static final int[] PLACES = {3, 6, 2, 5, 1, 4};

    private final Run club = new Run(CHECKS);

    public static void main(String[] args) {
        CHECKS.about(0, "A bridge club: boards are dealt, tables play them card by card after an auction that the laws "
                + "allow, contracts are scored, results are set against each other by points and steps, pairs move "
                + "from table to table, and of the last four tricks it is told what could still be made with all "
                + "cards seen.");
        EveningTest evening = new EveningTest();
        for (int board = 1; board <= 3; board++) {
            evening.club.deal(Deals.SUITS);
        }
        for (int round = 0; round < 3; round++) {
            evening.seat(round);
            evening.callInTurns(round);
            evening.playInTurns(round);
            evening.claim(round);
        }
        evening.results();
        evening.ranks();
        CHECKS.end();
    }

    /** Where the pairs of side 1 sit is theirs to move; three tables begin before one of them ends. */
    private void seat(int round) {
        int[] easts = {3, 4, 5, 5, 3, 4, 4, 5, 3};
        for (int table = 0; table < 3; table++) {
            String at = "plan 3 " + round + " " + table;
            int east = easts[3 * round + table];
            int board = BOARDS[3 * round + table];
            club.due(at + " 0", table).due(at + " 1", east).due(at + " 2", board - 1);
            club.due("begin " + table + " " + board + " " + table + " " + east + " = 1");
        }
        club.due("count 2 = 3");
    }

    private void callInTurns(int round) {
        for (int i = 0; i < 6; i++) {
            for (int table = 0; table < 3; table++) {
                int[] calls = CALLS[round][table];
                if (i < calls.length) {
                    boolean isPlayed = TRICKS[round][table].length > 0;
                    club.due("call " + table + " " + calls[i], i + 1 < calls.length ? 0 : isPlayed ? 1 : 2);
                }
            }
        }
    }

    /** Nine tricks, of which each table plays a card at a time. */
    private void playInTurns(int round) {
        for (int n = 0; n < 36; n++) {
            for (int table = 0; table < 3; table++) {
                int[] who = TRICKS[round][table];
                if (who.length > 0) {
                    List<int[]> tricks = Deals.suitCards(who[0], who[1], 9);
                    club.due("play " + table + " " + tricks.get(n / 4)[n % 4], n % 4 == 3 ? 1 : 0);
                }
            }
        }
    }

    /** The tables that played come to their ends in their order, those that passed did before. */
    private void claim(int round) {
        for (int table = 0; table < 3; table++) {
            if (TRICKS[round][table].length > 0) {
                club.due("best " + table + " = 4", "claim " + table + " 4 = 1");
            }
        }
        club.due("count 1 = " + 3 * (round + 1), "count 2 = 0");
    }

    /** In the third round the board that was passed came before those that were played. */
    private void results() {
        int[] order = {0, 1, 2, 3, 4, 5, 8, 6, 7};
        for (int i = 0; i < 9; i++) {
            int of = order[i];
            club.due("result " + i + " 0", BOARDS[of]).due("result " + i + " 8", SCORES[of]);
            club.due("points " + i + " 0", POINTS_OF_NORTH[of]).due("points " + i + " 1", 40 - POINTS_OF_NORTH[of]);
            club.due("write " + i, WRITTEN[of].length());
            // The first sign and the last one: an evening has calls for no more.
            club.due("out 0", WRITTEN[of].charAt(0));
            club.due("out " + (WRITTEN[of].length() - 1), WRITTEN[of].charAt(WRITTEN[of].length() - 1));
        }
        club.due("steps 1440 -1630 = 22", "steps 1440 0 = 16", "steps -190 0 = -5", "steps -710 510 = -15");
    }

    private void ranks() {
        for (int pair = 0; pair < 6; pair++) {
            club.due("total " + pair, TOTALS[pair]).due("top " + pair, 120).due("place " + pair, PLACES[pair]);
        }
    }
}
