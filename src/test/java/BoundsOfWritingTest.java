/** The boundary cases of part 5 of the terms, of promises 29 to 31, and of an object's 512 calls. */
public final class BoundsOfWritingTest {
    private static final Checks CHECKS = new Checks("BoundsOfWritingTest");
    private static final int MIN = Integer.MIN_VALUE;
    private static final int MAX = Integer.MAX_VALUE;
    private static final String STRAINS = "CDHSN";
    private static final String SEATS = "NESW";

    public static void main(String[] args) {
        passedOut();
        everySeatAndStrain();
        levels();
        doubled();
        exactlyMoreAndLess();
        writeOfNoSuchResult();
        outStays();
        outOfNoSuchSign();
        shorterBehindLonger();
        countsOfNothing();
        countsOfTheMost();
        countsOfPairs();
        nothingElseIsCounted();
        lastOfTheCalls();
        lastCardOfTheCalls();
        CHECKS.end();
    }

    private static Run played(int bidder, int winner, int... calls) {
        return new Run(CHECKS).allTricks(bidder, winner, calls);
    }

    private static void written(Run x, int i, String due) {
        x.due("write " + i, due.length());
        reads(x, due);
    }

    private static void reads(Run x, String due) {
        x.due("out -1 = -1");
        for (int k = 0; k < due.length(); k++) {
            x.due("out " + k, due.charAt(k));
        }
        x.due("out " + due.length(), -1);
    }

    private static void passedOut() {
        CHECKS.about(0, "passed out as \"pass\"");
        written(new Run(CHECKS).make("deal 1").passOut(0, 1, 0, 1), 0, "pass");
        written(new Run(CHECKS).make("deal 1").passOut(0, 1, 0, 1).make("adjust 0 1 2"), 0, "pass");
    }

    private static void everySeatAndStrain() {
        CHECKS.about(0, "STRAIN (C D H S N)");
        for (int seat = 0; seat <= 3; seat++) {
            for (int strain = 0; strain <= 4; strain++) {
                int winner = strain == 4 ? (seat + 1) % 4 : strain;
                String how = winner % 2 == seat % 2 ? "+6" : "-7";
                Run x = played(seat, winner, 3 + strain, 0, 0, 0);
                written(x, 0, "1" + STRAINS.charAt(strain) + " " + SEATS.charAt(seat) + " " + how);
            }
        }
    }

    private static void levels() {
        CHECKS.about(0, "else LEVEL");
        for (int level = 1; level <= 7; level++) {
            int bid = 3 + 5 * (level - 1);
            written(played(0, 0, bid, 0, 0, 0), 0, level + "C N " + (level == 7 ? "=" : "+" + (7 - level)));
        }
    }

    private static void doubled() {
        CHECKS.about(0, "X if doubled, XX if redoubled");
        written(played(0, 0, 33, 0, 0, 0), 0, "7C N =");
        written(played(0, 0, 33, 1, 0, 0, 0), 0, "7CX N =");
        written(played(0, 0, 33, 1, 2, 0, 0, 0), 0, "7CXX N =");
        written(played(0, 0, 3, 1, 2, 8, 0, 0, 13, 0, 0, 0), 0, "3C N +4");
        written(played(3, 0, 37, 1, 2, 0, 0, 0), 0, "7NXX W -13");
    }

    private static void exactlyMoreAndLess() {
        CHECKS.about(0, "and = , or + and how many tricks more, or - and how many less");
        written(played(1, 1, 34, 0, 0, 0), 0, "7D E =");
        written(played(1, 1, 29, 0, 0, 0), 0, "6D E +1");
        written(played(1, 1, 4, 0, 0, 0), 0, "1D E +6");
        written(played(1, 0, 3, 0, 0, 0), 0, "1C E -7");
        written(played(1, 0, 18, 0, 0, 0), 0, "4C E -10");
        written(played(1, 0, 33, 0, 0, 0), 0, "7C E -13");
        written(twelveTricks(33), 0, "7C N -1");
        written(twelveTricks(28), 0, "6C N =");
        written(twelveTricks(23), 0, "5C N +1");
    }

    /** North has the clubs but for the ace, and the ace of spades; east leads the ace of clubs. */
    private static Run twelveTricks(int bid) {
        int[] seats = Deals.seats(Deals.SUITS);
        seats[12] = 1;
        seats[51] = 0;
        seats[13] = 3;
        Run x = new Run(CHECKS).deal(seats).make("begin 0 1 10 11").calls(0, bid, 0, 0, 0);
        x.cards(0, 12, 26, 13, 0).cards(0, 14, 27, 39, 1);
        for (int k = 2; k <= 8; k++) {
            x.cards(0, k, 13 + k, 26 + k, 38 + k);
        }
        return x.due("table 0 9 = 8", "table 0 10 = 1", "claim 0 4 = 1", "result 0 7 = 12");
    }

    private static void writeOfNoSuchResult() {
        CHECKS.about(29, "NONE (and OUT stays) if there is none such.");
        Run x = new Run(CHECKS);
        x.each("write *", new int[] {MIN, -1, 0, 1, 199, 200, MAX}, -1).due("out 0 = -1");
        x.make("deal 1", "begin 0 1 0 1").due("write 0 = -1", "out 0 = -1").calls(0, 0, 0, 0, 0).due("out 0 = -1");
        x.each("write *", Run.outside(0, 0), -1).due("out 0 = -1", "write 0 = 4");
        x.each("write *", Run.outside(0, 0), -1);
        reads(x, "pass");
    }

    private static void outStays() {
        CHECKS.about(29, "NONE (and OUT stays) if there is none such.");
        Run x = played(0, 0, 3, 0, 0, 0).due("write 0 = 7");
        x.each("write *", Run.outside(0, 0), -1);
        reads(x, "1C N +6");
        // Whatever else comes, until a result is WRITTEN.
        x.passOut(0, 1, 0, 1).make("deal 1", "begin 0 2 0 1", "call 0 9", "back 0", "leave 0", "adjust 0 0 0");
        reads(x, "1C N +6");
        written(x, 1, "pass");
        written(x, 0, "1C N +6");
    }

    private static void outOfNoSuchSign() {
        CHECKS.about(30, "Sign i of OUT; NONE without.");
        Run x = new Run(CHECKS);
        x.each("out *", new int[] {MIN, -1, 0, 1, 3, 4, MAX}, -1).make("deal 1").passOut(0, 1, 0, 1);
        x.each("out *", Run.range(-1, 5), -1);
        x.due("write 0 = 4", "out 0 = 112", "out 1 = 97", "out 2 = 115", "out 3 = 115");
        x.each("out *", Run.outside(0, 3), -1).each("out *", Run.range(4, 16), -1);
        Run y = played(3, 0, 37, 1, 2, 0, 0, 0).due("write 0 = 10", "out 9 = 51", "out 10 = -1");
        y.each("out *", Run.outside(0, 9), -1);
    }

    private static void shorterBehindLonger() {
        CHECKS.about(30, "Sign i of OUT; NONE without.");
        Run x = played(3, 0, 37, 1, 2, 0, 0, 0).passOut(0, 1, 0, 1);
        written(x, 0, "7NXX W -13");
        written(x, 1, "pass");
        x.each("out *", Run.range(4, 12), -1);
        written(x, 0, "7NXX W -13");
    }

    private static void countsOfNothing() {
        CHECKS.about(31, "0 boards, 1 results, 2 tables that play, 3 pairs with a result");
        Run x = new Run(CHECKS).each("count *", Run.range(0, 3), 0);
        x.due("deal 1 = 1", "count 0 = 1", "count 1 = 0", "count 2 = 0", "count 3 = 0", "begin 0 1 0 39 = 1");
        x.due("count 0 = 1", "count 1 = 0", "count 2 = 1", "count 3 = 0", "leave 0 = 1", "count 2 = 0", "count 3 = 0");
        x.due("begin 0 1 0 39 = 1").calls(0, 0, 0, 0, 0);
        x.due("count 0 = 1", "count 1 = 1", "count 2 = 0", "count 3 = 2");
    }

    private static void countsOfTheMost() {
        CHECKS.about(31, "0 boards, 1 results, 2 tables that play, 3 pairs with a result");
        Run x = new Run(CHECKS);
        for (int b = 1; b <= 36; b++) {
            x.make("deal " + b);
        }
        for (int i = 0; i < 20; i++) {
            x.passOut(i % 10, 1 + i, i, 39 - i).due("count 1 = " + (i + 1), "count 3 = " + 2 * (i + 1));
        }
        for (int t = 0; t <= 9; t++) {
            x.make("begin " + t + " " + (21 + t) + " " + t + " " + (39 - t)).due("count 2 = " + (t + 1));
        }
        x.due("count 0 = 36", "deal 1 = -1", "count 0 = 36", "count 1 = 20", "count 3 = 40", "begin 0 35 20 21 = 0");
        x.due("count 2 = 10").calls(0, 0, 0, 0, 0).due("count 1 = 21", "count 2 = 9", "count 3 = 40");
    }

    private static void countsOfPairs() {
        CHECKS.about(31, "3 pairs with a result");
        Run x = new Run(CHECKS).make("deal 1", "deal 2", "deal 3").passOut(0, 1, 0, 39).due("count 3 = 2");
        x.passOut(0, 2, 39, 0).due("count 3 = 2").passOut(0, 3, 0, 1).due("count 3 = 3", "count 1 = 3");
        x.due("adjust 0 0 0 = 1", "count 3 = 3", "count 1 = 3");
    }

    private static void nothingElseIsCounted() {
        CHECKS.about(31, "NONE for others.");
        Run x = new Run(CHECKS).each("count *", Run.outside(0, 3), -1);
        x.make("deal 1").passOut(0, 1, 0, 1).each("count *", Run.outside(0, 3), -1);
    }

    /** Six boards and 101 results take 511 calls; no run has more of them, and the 200th is far away. */
    private static void lastOfTheCalls() {
        CHECKS.about(0, "An object is used for at most 512 calls after it has been made");
        Run x = new Run(CHECKS).make("deal 1", "deal 2", "deal 3", "deal 4", "deal 5", "deal 6");
        for (int i = 0; i < 101; i++) {
            x.passOut(i % 10, 1 + i / 20, i % 20, 20 + (i + i / 20) % 20);
        }
        CHECKS.same("calls left", x.callsLeft(), 1);
        String[] rows = {
            "count 0 = 6", "count 1 = 101", "count 2 = 0", "count 3 = 40", "result 100 0 = 6", "result 101 0 = -1",
            "result 100 8 = 0", "board 5 2 = 20", "board 6 2 = 1", "total 0 = 950", "top 0 = 1900", "total 1 = 950",
            "place 39 = 1", "points 99 1 = 190", "points 100 0 = 0", "write 100 = 4", "adjust 100 0 0 = 1",
            "begin 0 6 1 2 = 1", "deal 7 = 7", "write 101 = -1", "begin 0 6 0 2 = 0", "begin 0 6 25 2 = 0",
        };
        for (String row : rows) {
            x.again().due(row);
        }
    }

    /** A play that is taken back again and again, and whose last card is the object's 512th call. */
    private static void lastCardOfTheCalls() {
        CHECKS.about(0, "An object is used for at most 512 calls after it has been made");
        Run x = new Run(CHECKS).deal(Deals.SUITS).make("begin 0 1 0 1").calls(0, 3, 0, 0, 0).make("play 0 13");
        while (x.callsLeft() > 52) {
            x.due("back 0 = 1", "play 0 13 = 0");
        }
        while (x.callsLeft() > 51) {
            x.make("count 0");
        }
        int n = 0;
        for (int[] trick : Deals.suitCards(1, 0, 13)) {
            for (int card : trick) {
                if (n > 0) {
                    x.due("play 0 " + card, n == 51 ? 2 : n % 4 == 3 ? 1 : 0);
                }
                n++;
            }
        }
        CHECKS.same("calls left", x.callsLeft(), 0);
    }
}
