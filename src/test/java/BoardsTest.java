/** Promises 1 to 5: a new object, deal, swap, hand, board. */
public final class BoardsTest {
    private static final Checks CHECKS = new Checks("BoardsTest");
    private static final int[] SEEDS = {1, 0, -1, Integer.MIN_VALUE, Integer.MAX_VALUE, 123456789, 4, -77};
    /** The seats of the cards 0 .. 51 for each seed, found apart from this program. */
    private static final String[] SEATS = {
        "2201332330323112021112300113020302010100223231231031",
        "3100301321320120221230021223323130210120003013311123",
        "0233032220131012213210022310231003121320111010302333",
        "0001202231123111210303313032223013100011233232102320",
        "0023310223333011131300003122001012221032232130131221",
        "3122300313131302021031211210110203220232301330312200",
        "2133230101100232122021103001312303311230032023022311",
        "0320131322002331113220032133020002122100313111210233",
    };

    public static void main(String[] args) {
        newObject();
        dealing();
        swapping();
        hands();
        boards();
        CHECKS.end();
    }

    private static void newObject() {
        BridgeClub x = new BridgeClub();
        for (int what = 0; what < 4; what++) {
            CHECKS.same("count of a new object", x.count(what), 0);
        }
        for (int t = 0; t < 10; t++) {
            CHECKS.same("table(t, 3) of a new object", x.table(t, 3), 0);
            CHECKS.same("table(t, 0) of a new object", x.table(t, 0), -1);
        }
        CHECKS.same("board(1, 0) of a new object", x.board(1, 0), -1);
        CHECKS.same("result(0, 0) of a new object", x.result(0, 0), -1);
        CHECKS.same("total(0) of a new object", x.total(0), -1);
        CHECKS.same("out(0) of a new object", x.out(0), -1);
        CHECKS.same("NONE", BridgeClub.NONE, -1);
    }

    private static void dealing() {
        for (int i = 0; i < SEEDS.length; i++) {
            BridgeClub x = new BridgeClub();
            x.deal(99);
            CHECKS.same("deal", x.deal(SEEDS[i]), 2);
            for (int c = 0; c < 52; c++) {
                CHECKS.same("seed " + SEEDS[i] + " card " + c, x.hand(2, c), SEATS[i].charAt(c) - '0');
            }
        }
        BridgeClub x = new BridgeClub();
        for (int b = 1; b <= 36; b++) {
            CHECKS.same("deal", x.deal(b), b);
        }
        CHECKS.same("deal of the 37th", x.deal(37), -1);
        CHECKS.same("count(0)", x.count(0), 36);
        CHECKS.same("hand(37, 0)", x.hand(37, 0), -1);
    }

    private static void swapping() {
        BridgeClub x = new BridgeClub();
        CHECKS.no("swap without a board", x.swap(1, 0, 1));
        x.deal(1);
        x.deal(1);
        CHECKS.yes("swap(2, 0, 51)", x.swap(2, 0, 51));
        CHECKS.same("hand(2, 0)", x.hand(2, 0), 1);
        CHECKS.same("hand(2, 51)", x.hand(2, 51), 2);
        CHECKS.same("hand(1, 0)", x.hand(1, 0), 2);
        CHECKS.yes("swap of one hand's cards", x.swap(1, 0, 1));
        CHECKS.yes("swap of a card with itself", x.swap(1, 3, 3));
        CHECKS.same("hand(1, 1)", x.hand(1, 1), 2);
        CHECKS.same("hand(1, 3)", x.hand(1, 3), 1);
        CHECKS.no("swap(0, ..)", x.swap(0, 0, 4));
        CHECKS.no("swap(3, ..)", x.swap(3, 0, 4));
        CHECKS.no("swap(1, -1, 4)", x.swap(1, -1, 4));
        CHECKS.no("swap(1, 52, 4)", x.swap(1, 52, 4));
        CHECKS.no("swap(1, 4, -1)", x.swap(1, 4, -1));
        CHECKS.no("swap(1, 4, 52)", x.swap(1, 4, 52));
        CHECKS.same("hand(1, 4)", x.hand(1, 4), 3);
        x.begin(0, 1, 0, 1);
        CHECKS.no("swap of a board that is played", x.swap(1, 0, 4));
        CHECKS.yes("swap of another board", x.swap(2, 0, 51));
        x.leave(0);
        CHECKS.no("swap of a board that was begun", x.swap(1, 0, 4));
        CHECKS.same("hand(1, 0)", x.hand(1, 0), 2);
    }

    private static void hands() {
        BridgeClub x = new BridgeClub();
        CHECKS.same("hand without a board", x.hand(1, 0), -1);
        int b = Deals.deal(x, Deals.SUITS);
        CHECKS.same("hand(1, 12)", x.hand(b, 12), 0);
        CHECKS.same("hand(1, 13)", x.hand(b, 13), 1);
        CHECKS.same("hand(1, 51)", x.hand(b, 51), 3);
        CHECKS.same("hand(1, -1)", x.hand(b, -1), -1);
        CHECKS.same("hand(1, 52)", x.hand(b, 52), -1);
        CHECKS.same("hand(0, 0)", x.hand(0, 0), -1);
        CHECKS.same("hand(2, 0)", x.hand(2, 0), -1);
        CHECKS.same("hand(-2147483648, 0)", x.hand(Integer.MIN_VALUE, 0), -1);
        x.begin(0, b, 0, 1);
        Deals.calls(x, 0, 3, 0, 0, 0);
        x.play(0, 13);
        CHECKS.same("hand of a card that was played", x.hand(b, 13), 1);
    }

    private static void boards() {
        BridgeClub x = new BridgeClub();
        // Both rows as they stand on real boards 1 to 16: none, north-south, east-west, both.
        String vulnerable = "0123123023013012";
        for (int b = 1; b <= 36; b++) {
            x.deal(b);
            CHECKS.same("dealer of " + b, x.board(b, 0), (b - 1) % 4);
            CHECKS.same("vulnerable of " + b, x.board(b, 1), vulnerable.charAt((b - 1) % 16) - '0');
            CHECKS.same("results of " + b, x.board(b, 2), 0);
            CHECKS.same("table of " + b, x.board(b, 3), -1);
        }
        x.begin(0, 1, 10, 11);
        CHECKS.same("table of 1", x.board(1, 3), 0);
        x.begin(9, 36, 0, 39);
        CHECKS.same("table of 36", x.board(36, 3), 9);
        CHECKS.same("table of 35", x.board(35, 3), -1);
        Deals.calls(x, 9, 0, 0, 0, 0);
        CHECKS.same("table of 36 behind its result", x.board(36, 3), -1);
        CHECKS.same("results of 36", x.board(36, 2), 1);
        CHECKS.same("results of 35", x.board(35, 2), 0);
        CHECKS.same("board(1, -1)", x.board(1, -1), -1);
        CHECKS.same("board(1, 4)", x.board(1, 4), -1);
        CHECKS.same("board(0, 0)", x.board(0, 0), -1);
        CHECKS.same("board(37, 0)", x.board(37, 0), -1);
        CHECKS.same("board(-1, 2)", x.board(-1, 2), -1);
    }
}
