/** Promise 28: plan. */
public final class PlanTest {
    private static final Checks CHECKS = new Checks("PlanTest");

    public static void main(String[] args) {
        BridgeClub x = new BridgeClub();
        known(x);
        fair();
        refused(x);
        CHECKS.end();
    }

    private static void known(BridgeClub x) {
        // Rounds of three tables, then of four (where side 1 skips a table in round 2).
        String[] east = {"345", "534", "453", "4567", "7456", "5674"};
        String[] sets = {"012", "120", "201", "0123", "1230", "2301"};
        for (int row = 0; row < 6; row++) {
            int t = row < 3 ? 3 : 4;
            for (int k = 0; k < t; k++) {
                String at = "plan(" + t + ", " + row % 3 + ", " + k + ", ";
                CHECKS.same(at + "0)", x.plan(t, row % 3, k, 0), k);
                CHECKS.same(at + "1)", x.plan(t, row % 3, k, 1), east[row].charAt(k) - '0');
                CHECKS.same(at + "2)", x.plan(t, row % 3, k, 2), sets[row].charAt(k) - '0');
            }
        }
    }

    /** In each plan a pair of side 1 meets no pair of side 0 and no set of boards twice. */
    private static void fair() {
        for (int t = 3; t <= 10; t++) {
            BridgeClub x = new BridgeClub();
            int rounds = t % 2 == 0 ? t - 1 : t;
            boolean[] met = new boolean[t * t];
            boolean[] had = new boolean[t * t];
            for (int r = 0; r < rounds; r++) {
                for (int k = 0; k < t; k++) {
                    int east = x.plan(t, r, k, 1) - t;
                    int set = x.plan(t, r, k, 2);
                    boolean fits = east >= 0 && east < t && set >= 0 && set < t;
                    CHECKS.yes("pair and set at " + t + " tables", fits);
                    CHECKS.no("a pair met twice", fits && met[east * t + k]);
                    CHECKS.no("a set had twice", fits && had[east * t + set]);
                    if (fits) {
                        met[east * t + k] = true;
                        had[east * t + set] = true;
                    }
                }
            }
            CHECKS.same("no more rounds for " + t, x.plan(t, rounds, 0, 0), -1);
        }
    }

    private static void refused(BridgeClub x) {
        int[][] wrong = {
            {2, 0, 0, 0}, {11, 0, 0, 0}, {0, 0, 0, 0}, {-3, 0, 0, 0}, {3, -1, 0, 0}, {3, 3, 0, 0}, {4, 3, 0, 0},
            {10, 9, 0, 0}, {3, 0, -1, 0}, {3, 0, 3, 0}, {3, 0, 0, -1}, {3, 0, 0, 3},
            {Integer.MIN_VALUE, 0, 0, 0}, {3, Integer.MIN_VALUE, 0, 1}, {3, 0, Integer.MAX_VALUE, 2},
        };
        for (int[] w : wrong) {
            String call = "plan(" + w[0] + ", " + w[1] + ", " + w[2] + ", " + w[3] + ")";
            CHECKS.same(call, x.plan(w[0], w[1], w[2], w[3]), -1);
        }
        CHECKS.same("plan(9, 8, 8, 1)", x.plan(9, 8, 8, 1), 9);
        CHECKS.same("plan(10, 4, 0, 1)", x.plan(10, 4, 0, 1), 16);
        CHECKS.same("plan(10, 5, 0, 1)", x.plan(10, 5, 0, 1), 14);
    }
}
