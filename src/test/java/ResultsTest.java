/** Promises 20 to 27 and 29 to 31: results, scores, points, places and what is written. */
public final class ResultsTest {
    private static final Checks CHECKS = new Checks("ResultsTest");

    public static void main(String[] args) {
        results();
        vulnerableResults();
        scores();
        steps();
        points();
        pointsInTheOtherOrder();
        adjusts();
        places();
        writes();
        counts();
        CHECKS.end();
    }

    private static void results() {
        BridgeClub x = new BridgeClub();
        Deals.deal(x, Deals.SUITS);
        noResult(x, 0);
        x.begin(0, 1, 7, 8);
        noResult(x, 0);
        Deals.calls(x, 0, 4, 1, 2, 0, 0, 0);
        Deals.suitTricks(x, 0, 1, 1, 9);
        x.claim(0, 0);
        tells(x, 0, 1, 7, 8, 1, 1, 0, 2, 0, -7 * 600 + 800, 0);
        Deals.passOut(x, 3, 1, 9, 10);
        tells(x, 1, 1, 9, 10, 0, -1, -1, -1, -1, 0, 0);
        x.begin(3, 1, 11, 12);
        Deals.calls(x, 3, 0, 9, 0, 0, 0);
        Deals.suitTricks(x, 3, 2, 1, 9);
        x.claim(3, 4);
        tells(x, 2, 1, 11, 12, 2, 1, 1, 0, 13, -(40 + 50 + 100), 0);
        CHECKS.same("result(0, 10)", x.result(0, 10), -1);
        CHECKS.same("result(0, -1)", x.result(0, -1), -1);
        noResult(x, 3);
        noResult(x, -1);
        noResult(x, Integer.MIN_VALUE);
        noResult(x, Integer.MAX_VALUE);
    }

    private static void noResult(BridgeClub x, int i) {
        for (int what = -1; what <= 10; what++) {
            int due = what == 8 ? Integer.MIN_VALUE : -1;
            CHECKS.same("result(" + i + ", " + what + ")", x.result(i, what), due);
        }
    }

    private static void tells(BridgeClub x, int i, int... due) {
        for (int what = 0; what < due.length; what++) {
            CHECKS.same("result(" + i + ", " + what + ")", x.result(i, what), due[what]);
        }
    }

    /** Board 2 has side 0 vulnerable, 3 side 1, 4 both: it counts whether the declarer's side is. */
    private static void vulnerableResults() {
        int[] bids = {3, 3, 3, 3};
        int[] dealers = {0, 1, 2, 3};
        int[] due = {-350, -(50 * 7), -350, -(100 * 7)};
        for (int b = 0; b < 4; b++) {
            BridgeClub x = new BridgeClub();
            for (int i = 0; i < b; i++) {
                x.deal(0);
            }
            Deals.deal(x, Deals.SUITS);
            x.begin(0, b + 1, 0, 1);
            // A suit that the other side has all of: not one trick.
            int strain = 1 - dealers[b] % 2;
            Deals.bidAndClaim(x, 0, bids[b] + strain, strain, 0);
            CHECKS.same("tricks on board " + (b + 1), x.result(0, 7), 0);
            int sign = dealers[b] % 2 == 0 ? 1 : -1;
            CHECKS.same("score on board " + (b + 1), x.result(0, 8), sign * due[b]);
        }
        BridgeClub x = new BridgeClub();
        x.deal(0);
        Deals.deal(x, Deals.SUITS);
        x.begin(0, 2, 0, 1);
        // On board 2 east passes; south declares clubs, which north has, vulnerable.
        Deals.calls(x, 0, 0, 33, 0, 0, 0);
        Deals.suitTricks(x, 0, 3, 0, 9);
        x.claim(0, 4);
        CHECKS.same("declarer", x.result(0, 5), 2);
        CHECKS.same("7 clubs, vulnerable", x.result(0, 8), 140 + 500 + 1500);
    }

    private static void scores() {
        BridgeClub x = new BridgeClub();
        int[][] due = {
            // level, strain, doubled, vulnerable, tricks, score
            {1, 0, 0, 0, 7, 70}, {1, 1, 0, 1, 7, 70}, {1, 2, 0, 0, 7, 80}, {1, 3, 0, 0, 8, 110},
            {1, 4, 0, 0, 7, 90}, {1, 4, 0, 0, 13, 270}, {2, 4, 0, 1, 8, 120}, {3, 4, 0, 0, 9, 400},
            {3, 4, 0, 1, 9, 600}, {4, 2, 0, 0, 10, 420}, {4, 3, 0, 1, 11, 650}, {5, 0, 0, 0, 11, 400},
            {5, 1, 0, 1, 11, 600}, {4, 1, 0, 1, 10, 130}, {6, 0, 0, 0, 12, 920}, {6, 3, 0, 1, 12, 1430},
            {7, 4, 0, 0, 13, 1520}, {7, 4, 0, 1, 13, 2220}, {7, 1, 0, 0, 13, 1440}, {6, 4, 0, 0, 13, 1020},
            {1, 0, 1, 0, 7, 140}, {2, 0, 1, 0, 8, 180}, {2, 2, 1, 0, 8, 470}, {3, 0, 1, 0, 9, 470},
            {1, 4, 1, 0, 8, 280}, {1, 4, 1, 1, 8, 380}, {1, 0, 2, 0, 7, 230}, {1, 2, 2, 0, 7, 520},
            {1, 2, 2, 1, 9, 120 + 500 + 100 + 800}, {7, 4, 1, 1, 13, 440 + 500 + 1500 + 50},
            {7, 4, 2, 0, 13, 880 + 300 + 1000 + 100}, {1, 0, 2, 0, 13, 80 + 50 + 100 + 1200},
            {4, 3, 0, 0, 9, -50}, {4, 3, 0, 0, 0, -500}, {4, 3, 0, 1, 8, -200}, {1, 4, 1, 0, 6, -100},
            {1, 4, 1, 0, 5, -300}, {1, 4, 1, 0, 4, -500}, {1, 4, 1, 0, 3, -800}, {1, 4, 1, 1, 6, -200},
            {1, 4, 1, 1, 5, -500}, {1, 4, 1, 1, 3, -1100}, {1, 4, 2, 0, 6, -200}, {1, 4, 2, 0, 4, -1000},
            {1, 4, 2, 1, 5, -1000}, {7, 4, 1, 0, 0, -3500}, {7, 4, 2, 1, 0, -7600},
        };
        for (int[] d : due) {
            String call = "score(" + d[0] + ", " + d[1] + ", " + d[2] + ", " + d[3] + ", " + d[4] + ")";
            CHECKS.same(call, x.score(d[0], d[1], d[2], d[3] == 1, d[4]), d[5]);
        }
        int[][] wrong = {
            {0, 0, 0, 7}, {8, 0, 0, 7}, {-1, 0, 0, 7}, {1, -1, 0, 7}, {1, 5, 0, 7}, {1, 0, -1, 7}, {1, 0, 3, 7},
            {1, 0, 0, -1}, {1, 0, 0, 14}, {Integer.MAX_VALUE, 0, 0, 7}, {1, 0, 0, Integer.MIN_VALUE},
        };
        for (int[] w : wrong) {
            String call = "score(" + w[0] + ", " + w[1] + ", " + w[2] + ", .., " + w[3] + ")";
            CHECKS.same(call, x.score(w[0], w[1], w[2], false, w[3]), Integer.MIN_VALUE);
        }
    }

    private static void steps() {
        BridgeClub x = new BridgeClub();
        int[] bounds = {20, 50, 90, 130, 170, 220, 270, 320, 370, 430, 500, 600, 750, 900, 1100, 1300, 1500, 1750,
            2000, 2250, 2500, 3000, 3500, 4000};
        for (int i = 0; i < bounds.length; i++) {
            CHECKS.same("steps at " + bounds[i], x.steps(bounds[i], 0), i + 1);
            CHECKS.same("steps below " + bounds[i], x.steps(bounds[i] - 1, 0), i);
            CHECKS.same("steps down by " + bounds[i], x.steps(-100, bounds[i] - 100), -i - 1);
            CHECKS.same("steps down by less than " + bounds[i], x.steps(0, bounds[i] - 1), -i);
        }
        CHECKS.same("steps(5, 5)", x.steps(5, 5), 0);
        CHECKS.same("the greatest", x.steps(Integer.MAX_VALUE, Integer.MIN_VALUE), 24);
        CHECKS.same("the least", x.steps(Integer.MIN_VALUE, Integer.MAX_VALUE), -24);
        CHECKS.same("steps(-2147483648, 0)", x.steps(Integer.MIN_VALUE, 0), -24);
    }

    /** Results 0 .. 4 of board 1: 1440, 190, passed, -350, passed. */
    private static BridgeClub fiveResults() {
        BridgeClub x = new BridgeClub();
        Deals.deal(x, Deals.SUITS);
        x.begin(0, 1, 0, 20);
        Deals.bidAndClaim(x, 0, 33, 0, 4);
        x.begin(0, 1, 1, 21);
        Deals.bidAndClaim(x, 0, 3, 0, 4);
        Deals.passOut(x, 0, 1, 2, 22);
        x.begin(0, 1, 3, 23);
        Deals.bidAndClaim(x, 0, 7, 1, 0);
        Deals.passOut(x, 0, 1, 4, 24);
        return x;
    }

    private static void points() {
        BridgeClub x = fiveResults();
        int[] scores = {1440, 190, 0, -350, 0};
        int[] north = {80, 60, 30, 0, 30};
        for (int i = 0; i < 5; i++) {
            CHECKS.same("score " + i, x.result(i, 8), scores[i]);
            CHECKS.same("points(" + i + ", 0)", x.points(i, 0), north[i]);
            CHECKS.same("points(" + i + ", 1)", x.points(i, 1), 80 - north[i]);
            CHECKS.same("total(" + i + ")", x.total(i), north[i]);
            CHECKS.same("total(" + (20 + i) + ")", x.total(20 + i), 80 - north[i]);
            CHECKS.same("top(" + i + ")", x.top(i), 80);
        }
        CHECKS.same("points(5, 0)", x.points(5, 0), -1);
        CHECKS.same("points(-1, 0)", x.points(-1, 0), -1);
        CHECKS.same("points(0, 2)", x.points(0, 2), -1);
        CHECKS.same("points(0, -1)", x.points(0, -1), -1);
        for (int pair : new int[] {-1, 5, 19, 25, 39, 40, Integer.MIN_VALUE}) {
            CHECKS.same("total(" + pair + ")", x.total(pair), -1);
            CHECKS.same("top(" + pair + ")", x.top(pair), -1);
            CHECKS.same("place(" + pair + ")", x.place(pair), -1);
        }
        // Another board counts apart: pair 20 plays it for side 0.
        x.deal(1);
        Deals.passOut(x, 0, 2, 20, 1);
        CHECKS.same("points(5, 0)", x.points(5, 0), 0);
        CHECKS.same("points(0, 0)", x.points(0, 0), 80);
        CHECKS.same("total(1)", x.total(1), 60);
        CHECKS.same("top(1)", x.top(1), 80);
        Deals.passOut(x, 0, 2, 0, 21);
        CHECKS.same("total(1), both sides", x.total(1), 60 + 10);
        CHECKS.same("total(20), both sides", x.total(20), 0 + 10);
        CHECKS.same("top(20)", x.top(20), 80 + 20);
    }

    /** What came first counts, too, when it is the least. */
    private static void pointsInTheOtherOrder() {
        BridgeClub x = new BridgeClub();
        Deals.deal(x, Deals.SUITS);
        x.begin(0, 1, 3, 23);
        Deals.bidAndClaim(x, 0, 7, 1, 0);
        Deals.passOut(x, 0, 1, 4, 24);
        CHECKS.same("points(0, 0)", x.points(0, 0), 0);
        CHECKS.same("points(0, 1)", x.points(0, 1), 20);
        CHECKS.same("points(1, 0)", x.points(1, 0), 20);
        CHECKS.same("points(1, 1)", x.points(1, 1), 0);
    }

    private static void adjusts() {
        BridgeClub x = fiveResults();
        CHECKS.no("adjust(5, ..)", x.adjust(5, 50, 50));
        CHECKS.no("adjust(-1, ..)", x.adjust(-1, 50, 50));
        CHECKS.no("adjust(1, -1, 50)", x.adjust(1, -1, 50));
        CHECKS.no("adjust(1, 101, 50)", x.adjust(1, 101, 50));
        CHECKS.no("adjust(1, 50, -1)", x.adjust(1, 50, -1));
        CHECKS.no("adjust(1, 50, 101)", x.adjust(1, 50, 101));
        CHECKS.same("result(1, 9)", x.result(1, 9), 0);
        CHECKS.same("points(1, 0)", x.points(1, 0), 60);
        CHECKS.yes("adjust(1, 33, 99)", x.adjust(1, 33, 99));
        CHECKS.same("result(1, 9)", x.result(1, 9), 1);
        CHECKS.same("its score stays", x.result(1, 8), 190);
        CHECKS.same("33 of 100 of 80, cut", x.points(1, 0), 26);
        CHECKS.same("99 of 100 of 80, cut", x.points(1, 1), 79);
        int[] north = {70, 26, 30 + 10, 10, 40};
        for (int i = 0; i < 5; i++) {
            CHECKS.same("points(" + i + ", 0)", x.points(i, 0), north[i]);
            CHECKS.same("points(" + i + ", 1)", x.points(i, 1), i == 1 ? 79 : 80 - north[i]);
        }
        CHECKS.yes("adjust(1, 0, 100)", x.adjust(1, 0, 100));
        CHECKS.same("points(1, 0)", x.points(1, 0), 0);
        CHECKS.same("points(1, 1)", x.points(1, 1), 80);
        CHECKS.same("total(21)", x.total(21), 80);
        CHECKS.yes("adjust of one that was passed", x.adjust(2, 100, 0));
        CHECKS.same("points(2, 0)", x.points(2, 0), 80);
        CHECKS.same("points(2, 1)", x.points(2, 1), 0);
        CHECKS.same("points(0, 0)", x.points(0, 0), 60);
        CHECKS.same("points(4, 0)", x.points(4, 0), 20 + 20);
    }

    private static void places() {
        BridgeClub x = fiveResults();
        // Parts of 80: side 0 has 80 60 30 0 30, side 1 0 20 50 80 50.
        int[] north = {1, 3, 6, 9, 6};
        int[] east = {9, 8, 4, 1, 4};
        for (int i = 0; i < 5; i++) {
            CHECKS.same("place(" + i + ")", x.place(i), north[i]);
            CHECKS.same("place(" + (20 + i) + ")", x.place(20 + i), east[i]);
        }
        // A pair that could have had nothing has one half: behind 80 80 60 50 50, before 30.
        x.deal(1);
        Deals.passOut(x, 0, 2, 10, 0);
        CHECKS.same("place(10)", x.place(10), 6);
        CHECKS.same("place(2)", x.place(2), 7);
        CHECKS.same("place(0), another board that gives nothing", x.place(0), 1);
        // 80 of 100 is less than 80 of 80, and 60 of 80 less than that.
        Deals.passOut(x, 0, 2, 11, 12);
        CHECKS.same("total(0)", x.total(0), 90);
        CHECKS.same("place(23)", x.place(23), 1);
        CHECKS.same("place(0)", x.place(0), 2);
        CHECKS.same("place(1)", x.place(1), 3);
        CHECKS.same("place(10), 10 of 20", x.place(10), 6);
        CHECKS.same("place(12), 10 of 20", x.place(12), 6);
    }

    private static void writes() {
        BridgeClub x = fiveResults();
        CHECKS.same("out(0) before", x.out(0), -1);
        written(x, 0, "7C N =");
        written(x, 1, "1C N +6");
        written(x, 2, "pass");
        written(x, 3, "1N N -7");
        CHECKS.same("write(5)", x.write(5), -1);
        CHECKS.same("write(-1)", x.write(-1), -1);
        CHECKS.same("OUT stays", x.out(6), '7');
        CHECKS.same("OUT stays", x.out(0), '1');
        x.begin(0, 1, 30, 31);
        // West doubles and north redoubles 7 spades, which west has all of: "7SXX S -13".
        Deals.calls(x, 0, 0, 0, 36, 1, 2, 0, 0, 0);
        Deals.suitTricks(x, 0, 3, 3, 9);
        x.claim(0, 0);
        written(x, 5, "7SXX S -13");
        BridgeClub y = new BridgeClub();
        Deals.deal(y, Deals.SUITS);
        y.begin(0, 1, 0, 1);
        Deals.calls(y, 0, 0, 4, 1, 0, 0, 0);
        Deals.suitTricks(y, 0, 2, 1, 9);
        y.claim(0, 4);
        written(y, 0, "1DX E +6");
        y.begin(0, 1, 4, 5);
        Deals.bidAndClaim(y, 0, 28, 0, 4);
        written(y, 1, "6C N +1");
        y.begin(0, 1, 2, 3);
        Deals.calls(y, 0, 0, 0, 0, 5, 0, 0, 0);
        Deals.suitTricks(y, 0, 0, 2, 9);
        y.claim(0, 0);
        written(y, 2, "1H W -7");
    }

    private static void written(BridgeClub x, int i, String due) {
        CHECKS.same("write(" + i + ")", x.write(i), due.length());
        for (int k = 0; k < due.length(); k++) {
            CHECKS.same("sign " + k + " of " + due, x.out(k), due.charAt(k));
        }
        CHECKS.same("behind " + due, x.out(due.length()), -1);
        CHECKS.same("before " + due, x.out(-1), -1);
    }

    private static void counts() {
        BridgeClub x = new BridgeClub();
        x.deal(1);
        x.deal(2);
        CHECKS.same("count(0)", x.count(0), 2);
        x.begin(0, 1, 0, 39);
        x.begin(1, 2, 1, 2);
        CHECKS.same("count(2)", x.count(2), 2);
        CHECKS.same("count(3)", x.count(3), 0);
        Deals.calls(x, 0, 0, 0, 0, 0);
        CHECKS.same("count(1)", x.count(1), 1);
        CHECKS.same("count(2)", x.count(2), 1);
        CHECKS.same("count(3)", x.count(3), 2);
        Deals.passOut(x, 0, 1, 3, 4);
        CHECKS.same("count(3)", x.count(3), 4);
        Deals.calls(x, 1, 0, 0, 0, 0);
        Deals.passOut(x, 0, 2, 39, 0);
        CHECKS.same("count(1)", x.count(1), 4);
        CHECKS.same("count(3), no pair twice", x.count(3), 6);
        CHECKS.same("count(4)", x.count(4), -1);
        CHECKS.same("count(-1)", x.count(-1), -1);
    }
}
