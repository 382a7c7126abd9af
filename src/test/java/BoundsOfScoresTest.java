/** The boundary cases of part 3 of the terms, and of promises 20 to 27. */
public final class BoundsOfScoresTest {
    private static final Checks CHECKS = new Checks("BoundsOfScoresTest");
    private static final int MIN = Integer.MIN_VALUE;
    private static final int MAX = Integer.MAX_VALUE;
    private static final int[] STEPS = {
        20, 50, 90, 130, 170, 220, 270, 320, 370, 430, 500, 600, 750, 900, 1100, 1300, 1500, 1750, 2000, 2250, 2500,
        3000, 3500, 4000,
    };

    public static void main(String[] args) {
        resultsOfPassed();
        resultsAsTheyCame();
        noSuchResult();
        nothingElseOfAResult();
        scoreForSideZero();
        scoreOfTheVulnerable();
        adjustToSuchParts();
        adjustAgain();
        adjustOfNoSuchResult();
        scoreOfWhatCantBe();
        madeOrNot();
        hundredOrMore();
        slams();
        doubledAndRedoubled();
        tricksAbove();
        tricksShort();
        allScores();
        stepsAtEachBound();
        stepsOfTheFarthest();
        pointsOfOneResult();
        pointsOfTheSame();
        pointsOfTheAdjusted();
        partsAreCut();
        noSuchPoints();
        totals();
        noResultOfAPair();
        places();
        placesOfHalf();
        placesOfEqualParts();
        CHECKS.end();
    }

    // ---- promises 20 and 21

    private static void resultsOfPassed() {
        CHECKS.about(20, "3 the LEVEL (0 if PASSED), 4 STRAIN, 5 DECLARER, 6 doubled or redoubled, "
                + "7 TRICKS of the DECLARER's side (4 to 7: NONE if PASSED)");
        Run x = new Run(CHECKS).make("deal 1", "deal 2").passOut(0, 2, 39, 0);
        tells(x, 0, 2, 39, 0, 0, -1, -1, -1, -1, 0, 0);
        x.due("adjust 0 0 100 = 1");
        tells(x, 0, 2, 39, 0, 0, -1, -1, -1, -1, 0, 1);
    }

    private static void tells(Run x, int i, int... due) {
        for (int what = 0; what < due.length; what++) {
            x.due("result " + i + " " + what, due[what]);
        }
    }

    private static void resultsAsTheyCame() {
        CHECKS.about(20, "Of a result (from 0 on, as they came)");
        Run x = new Run(CHECKS).make("deal 1", "deal 2", "deal 3", "begin 0 1 0 1", "begin 1 2 2 3", "begin 9 3 38 39");
        x.calls(9, 0, 0, 0, 0).due("result 0 0 = 3", "result 0 1 = 38", "result 0 2 = 39", "result 1 0 = -1");
        x.calls(1, 0, 0, 0, 0).calls(0, 0, 0, 0, 0).due("result 0 0 = 3", "result 1 0 = 2", "result 2 0 = 1");
        x.due("result 2 1 = 0", "result 2 2 = 1", "result 3 0 = -1");
    }

    private static void noSuchResult() {
        CHECKS.about(20, "or no such result (of 8: -2147483648)");
        Run x = new Run(CHECKS);
        x.each("result * 8", new int[] {MIN, -1, 0, 1, 199, 200, MAX}, MIN);
        x.each("result 0 *", new int[] {MIN, -1, 0, 1, 2, 3, 4, 5, 6, 7, 9, 10, MAX}, -1);
        x.make("deal 1", "begin 0 1 0 1").due("result 0 0 = -1", "result 0 8 = MIN");
        x.calls(0, 0, 0, 0, 0).passOut(0, 1, 2, 3);
        x.due("result 0 8 = 0", "result 1 8 = 0", "result 0 0 = 1", "result 1 1 = 2");
        for (int what = -1; what <= 10; what++) {
            x.each("result * " + what, Run.outside(0, 1), what == 8 ? MIN : -1);
        }
    }

    private static void nothingElseOfAResult() {
        CHECKS.about(20, "NONE for others");
        Run x = new Run(CHECKS).make("deal 1").passOut(0, 1, 0, 1);
        x.each("result 0 *", Run.outside(0, 9), -1).each("result 1 *", Run.outside(0, 9), -1);
        x.each("result -1 *", Run.outside(0, 9), -1).due("result 0 9 = 0", "result 0 0 = 1");
    }

    private static void scoreForSideZero() {
        CHECKS.about(0, "A result's SCORE is that for side 0 (so what side 1 wins counts less); PASSED: 0.");
        tells(new Run(CHECKS).allTricks(0, 0, 33, 0, 0, 0), 0, 1, 10, 11, 7, 0, 0, 0, 13, 1440, 0);
        tells(new Run(CHECKS).allTricks(2, 0, 33, 0, 0, 0), 0, 1, 10, 11, 7, 0, 2, 0, 13, 1440, 0);
        tells(new Run(CHECKS).allTricks(1, 1, 34, 0, 0, 0), 0, 1, 10, 11, 7, 1, 1, 0, 13, -1440, 0);
        tells(new Run(CHECKS).allTricks(3, 1, 34, 0, 0, 0), 0, 1, 10, 11, 7, 1, 3, 0, 13, -1440, 0);
        tells(new Run(CHECKS).allTricks(0, 1, 34, 1, 0, 0, 0), 0, 1, 10, 11, 7, 1, 0, 1, 0, -3500, 0);
        tells(new Run(CHECKS).allTricks(1, 0, 33, 1, 2, 0, 0, 0), 0, 1, 10, 11, 7, 0, 1, 2, 0, 7000, 0);
    }

    /** The dealer bids 1 club, and side 0 or 1 takes all tricks; vulnerable are none, side 0, side 1, both. */
    private static void scoreOfTheVulnerable() {
        CHECKS.about(0, "its SIDE being VULNERABLE or not");
        int[] due = {190, 350, 190, 700};
        for (int b = 1; b <= 4; b++) {
            Run x = new Run(CHECKS);
            for (int i = 1; i < b; i++) {
                x.make("deal 0");
            }
            x.deal(Deals.SUITS).make("begin 0 " + b + " 10 11").calls(0, 3, 0, 0, 0);
            x.suitTricks(0, b % 4, 0, 9).make("claim 0 " + x.ask("best 0")).due("result 0 8 = " + due[b - 1]);
            x.due("result 0 5 = " + (b - 1));
        }
        // Board 2, side 0 vulnerable: south goes down in no trumps, and makes 1 club with 6 more (no more for that).
        Run y = new Run(CHECKS).make("deal 0").deal(Deals.SUITS).make("begin 0 2 0 1").calls(0, 0, 7, 0, 0, 0);
        y.suitTricks(0, 3, 3, 9).make("claim 0 0").due("result 0 5 = 2", "result 0 8 = -700");
        y.make("begin 0 2 2 3").calls(0, 0, 23, 0, 0, 0).suitTricks(0, 3, 0, 9).make("claim 0 4");
        y.due("result 1 8 = 640");
    }

    private static void adjustToSuchParts() {
        CHECKS.about(21, "false if there is none such, or no such PARTS");
        Run x = new Run(CHECKS).make("deal 1").passOut(0, 1, 0, 1).passOut(0, 1, 2, 3);
        x.each("adjust 0 * 50", Run.outside(0, 100), 0).each("adjust 0 50 *", Run.outside(0, 100), 0);
        x.each("adjust 0 * *", Run.outside(0, 100), 0).due("result 0 9 = 0", "points 0 0 = 10", "points 0 1 = 10");
        x.due("adjust 0 0 100 = 1", "result 0 9 = 1", "points 0 0 = 0", "points 0 1 = 20");
        x.due("adjust 0 100 0 = 1", "result 0 9 = 1", "points 0 0 = 20", "points 0 1 = 0");
        x.due("adjust 0 0 0 = 1", "points 0 0 = 0", "points 0 1 = 0", "result 1 9 = 0");
        x.due("adjust 1 100 100 = 1", "points 1 0 = 20", "points 1 1 = 20", "result 1 9 = 1");
        // What was ADJUSTED stays so when other PARTS are refused.
        x.each("adjust 1 * 50", Run.outside(0, 100), 0).due("points 1 0 = 20", "points 1 1 = 20", "result 1 9 = 1");
    }

    private static void adjustAgain() {
        CHECKS.about(21, "A result is ADJUSTED (in place of what it was)");
        Run x = new Run(CHECKS).make("deal 1").passOut(0, 1, 0, 1).passOut(0, 1, 2, 3);
        x.due("adjust 0 60 40 = 1", "points 0 0 = 12", "points 0 1 = 8", "adjust 0 30 90 = 1", "points 0 0 = 6");
        x.due("points 0 1 = 18", "adjust 0 30 90 = 1", "points 0 1 = 18", "points 1 0 = 10", "points 1 1 = 10");
        x.due("result 0 8 = 0", "result 0 3 = 0", "result 0 0 = 1", "count 1 = 2");
    }

    private static void adjustOfNoSuchResult() {
        CHECKS.about(21, "false if there is none such");
        Run x = new Run(CHECKS).make("deal 1");
        x.each("adjust * 50 50", new int[] {MIN, -1, 0, 1, 199, 200, MAX}, 0).make("begin 0 1 0 1");
        x.due("adjust 0 50 50 = 0").calls(0, 0, 0, 0, 0).each("adjust * 50 50", Run.outside(0, 0), 0);
        x.due("result 0 9 = 0", "adjust 0 50 50 = 1", "result 0 9 = 1").passOut(0, 1, 2, 3);
        x.due("result 1 9 = 0", "adjust 1 0 0 = 1").each("adjust * 50 50", Run.outside(0, 1), 0);
    }

    // ---- promises 22 and 23

    private static void scoreOfWhatCantBe() {
        CHECKS.about(22, "-2147483648 for what can't be");
        Run x = new Run(CHECKS);
        x.each("score * 0 0 false 7", Run.outside(1, 7), MIN).each("score * 4 2 true 13", Run.outside(1, 7), MIN);
        x.each("score 1 * 0 false 7", Run.outside(0, 4), MIN).each("score 7 * 2 true 0", Run.outside(0, 4), MIN);
        x.each("score 1 0 * false 7", Run.outside(0, 2), MIN).each("score 1 0 * true 6", Run.outside(0, 2), MIN);
        x.each("score 1 0 0 false *", Run.outside(0, 13), MIN).each("score 7 4 2 true *", Run.outside(0, 13), MIN);
        x.due("score 1 0 0 false 0 = -350", "score 7 0 0 false 13 = 1440", "score 1 4 0 false 7 = 90");
        x.due("score 1 0 2 false 7 = 230", "score 7 4 2 true 0 = -7600", "score 1 0 0 true 13 = 190");
    }

    private static void madeOrNot() {
        CHECKS.about(0, "Made (t at least l + 6)");
        Run x = new Run(CHECKS);
        int[] clubs = {70, 90, 110, 130, 400, 920, 1440};
        for (int level = 1; level <= 7; level++) {
            x.due("score " + level + " 0 0 false " + (level + 6) + " = " + clubs[level - 1]);
            x.due("score " + level + " 0 0 false " + (level + 5) + " = -50");
            x.due("score " + level + " 0 0 true " + (level + 5) + " = -100");
            x.due("score " + level + " 4 1 false " + (level + 5) + " = -100");
            x.due("score " + level + " 4 2 true " + (level + 5) + " = -400");
        }
    }

    private static void hundredOrMore() {
        CHECKS.about(0, "If this is 100 or more, 300 (VULNERABLE 500), else 50.");
        Run x = new Run(CHECKS);
        // 100 itself: 5 clubs, 3 no trumps; below: 80, 90, 70; doubled 80 and 120, redoubled 80 and 120.
        x.due("score 5 0 0 false 11 = 400", "score 5 0 0 true 11 = 600", "score 4 0 0 false 10 = 130");
        x.due("score 4 1 0 true 10 = 130", "score 3 4 0 false 9 = 400", "score 3 4 0 true 9 = 600");
        x.due("score 2 4 0 false 8 = 120", "score 2 4 0 true 8 = 120", "score 3 2 0 false 9 = 140");
        x.due("score 3 3 0 true 9 = 140", "score 4 2 0 false 10 = 420", "score 4 3 0 true 10 = 620");
        x.due("score 2 0 1 false 8 = 180", "score 2 1 1 true 8 = 180", "score 3 0 1 false 9 = 470");
        x.due("score 3 1 1 true 9 = 670", "score 1 3 1 false 7 = 160", "score 1 4 1 true 7 = 180");
        x.due("score 2 2 1 false 8 = 470", "score 1 0 2 false 7 = 230", "score 1 1 2 true 7 = 230");
        x.due("score 1 2 2 false 7 = 520", "score 1 3 2 true 7 = 720", "score 2 0 2 false 8 = 560");
        // What tricks above the LEVEL bring does not count there.
        x.due("score 1 0 0 false 13 = 190", "score 3 3 0 true 13 = 260", "score 2 0 1 true 13 = 1180");
    }

    private static void slams() {
        CHECKS.about(0, "LEVEL 6: 500 (750), 7: 1000 (1500) more.");
        Run x = new Run(CHECKS);
        x.due("score 5 3 0 false 12 = 480", "score 5 3 0 true 13 = 710", "score 6 3 0 false 12 = 980");
        x.due("score 6 3 0 true 12 = 1430", "score 6 3 0 false 13 = 1010", "score 7 3 0 false 13 = 1510");
        x.due("score 7 3 0 true 13 = 2210", "score 7 0 0 true 13 = 2140", "score 6 0 0 true 12 = 1370");
        x.due("score 6 4 2 true 12 = 2110", "score 7 4 2 true 13 = 2980", "score 7 4 1 false 13 = 1790");
    }

    private static void doubledAndRedoubled() {
        CHECKS.about(0, "all that twice if doubled, four times if redoubled");
        Run x = new Run(CHECKS);
        x.due("score 1 4 0 false 7 = 90", "score 1 4 1 false 7 = 180", "score 1 4 2 false 7 = 560");
        x.due("score 1 4 2 true 7 = 760", "score 7 4 1 true 13 = 2490", "score 7 0 1 false 13 = 1630");
        x.due("score 7 0 2 false 13 = 1960", "score 5 2 1 true 11 = 850", "score 5 2 2 true 11 = 1200");
    }

    private static void tricksAbove() {
        CHECKS.about(0, "Each trick above l + 6: 20 or 30 as told (no trumps 30), doubled 100 (200), "
                + "redoubled 200 (400).");
        int[] each = {20, 20, 30, 30, 30};
        int[] least = {70, 70, 80, 80, 90};
        for (int strain = 0; strain <= 4; strain++) {
            Run x = new Run(CHECKS);
            for (int more = 0; more <= 6; more++) {
                x.due("score 1 " + strain + " 0 false " + (7 + more), least[strain] + more * each[strain]);
                x.due("score 1 " + strain + " 0 true " + (7 + more), least[strain] + more * each[strain]);
            }
        }
        Run x = new Run(CHECKS);
        for (int more = 0; more <= 6; more++) {
            x.due("score 1 0 1 false " + (7 + more), 140 + 100 * more);
            x.due("score 1 4 1 true " + (7 + more), 180 + 200 * more);
            x.due("score 1 1 2 false " + (7 + more), 230 + 200 * more);
            x.due("score 1 0 2 true " + (7 + more), 230 + 400 * more);
        }
    }

    private static void tricksShort() {
        CHECKS.about(0, "doubled: 100 for the first, 200 each for the second and the third, 300 each for others "
                + "(VULNERABLE: 200 for the first, 300 each for others); redoubled twice that");
        int[] plain = {100, 300, 500, 800, 1100, 1400, 1700, 2000, 2300, 2600, 2900, 3200, 3500};
        int[] vulnerable = {200, 500, 800, 1100, 1400, 1700, 2000, 2300, 2600, 2900, 3200, 3500, 3800};
        for (int strain = 0; strain <= 4; strain++) {
            Run x = new Run(CHECKS);
            for (int u = 1; u <= 13; u++) {
                String least = "score 7 " + strain;
                x.due(least + " 0 false " + (13 - u), -50 * u).due(least + " 0 true " + (13 - u), -100 * u);
                x.due(least + " 1 false " + (13 - u), -plain[u - 1]);
                x.due(least + " 1 true " + (13 - u), -vulnerable[u - 1]);
                x.due(least + " 2 false " + (13 - u), -2 * plain[u - 1]);
                x.due(least + " 2 true " + (13 - u), -2 * vulnerable[u - 1]);
            }
            x.due("score 1 " + strain + " 1 false 0 = -1700", "score 1 " + strain + " 2 true 0 = -4000");
        }
    }

    /** Each contract that can be, against the second model. */
    private static void allScores() {
        CHECKS.about(22, "The SCORE for the declaring side of a CONTRACT");
        PlainClub plain = new PlainClub();
        for (int level = 1; level <= 7; level++) {
            Run x = new Run(CHECKS);
            for (int i = 0; i < 5 * 3 * 2 * 14; i++) {
                boolean vulnerable = i / 15 % 2 == 0;
                String call = "score " + level + " " + i % 5 + " " + i / 5 % 3 + " " + vulnerable + " " + i / 30;
                x.due(call, Run.ask(plain, call));
            }
        }
    }

    private static void stepsAtEachBound() {
        CHECKS.about(0, "how many of these it isn't below; with the sign of the difference");
        Run x = new Run(CHECKS);
        for (int i = 0; i < STEPS.length; i++) {
            int bound = STEPS[i];
            x.due("steps " + bound + " 0", i + 1).due("steps " + (bound - 1) + " 0", i);
            x.due("steps " + (bound + 1) + " 0", i + 1).due("steps 0 " + bound, -(i + 1));
            x.due("steps 0 " + (bound - 1), -i).due("steps " + -bound + " 0", -(i + 1));
            x.due("steps " + (bound - 7000) + " -7000", i + 1).due("steps 7000 " + (7000 + bound), -(i + 1));
        }
        x.due("steps 0 0 = 0", "steps 19 0 = 0", "steps 0 19 = 0", "steps -19 0 = 0", "steps 10 -9 = 0");
        x.due("steps 10 -10 = 1", "steps -10 10 = -1", "steps 4001 0 = 24");
        x.due("steps 0 15200 = -24", "steps 7600 -7600 = 24");
    }

    private static void stepsOfTheFarthest() {
        CHECKS.about(23, "The STEPS by which SCORE a is above SCORE b.");
        Run x = new Run(CHECKS);
        x.due("steps MAX MIN = 24", "steps MIN MAX = -24", "steps MIN 0 = -24", "steps 0 MIN = 24", "steps MAX 0 = 24");
        x.due("steps 0 MAX = -24", "steps MAX -1 = 24", "steps MIN 1 = -24", "steps MIN -1 = -24", "steps MAX MAX = 0");
        x.due("steps MIN MIN = 0", "steps MAX 1 = 24", "steps -1 MAX = -24");
        x.due("steps " + MAX + " " + (MAX - 20), 1).due("steps " + MAX + " " + (MAX - 19), 0);
        x.due("steps " + MIN + " " + (MIN + 20), -1).due("steps " + MIN + " " + (MIN + 19), 0);
        x.due("steps " + (MIN + 4000) + " " + MIN, 24).due("steps " + (MIN + 3999) + " " + MIN, 23);
    }

    // ---- promises 24 to 27

    private static void pointsOfOneResult() {
        CHECKS.about(0, "side 1 what is left of 20 (n - 1)");
        Run x = new Run(CHECKS).make("deal 1", "deal 2").passOut(0, 1, 0, 1);
        x.due("points 0 0 = 0", "points 0 1 = 0", "total 0 = 0", "total 1 = 0", "top 0 = 0", "top 1 = 0");
        x.due("adjust 0 100 100 = 1", "points 0 0 = 0", "points 0 1 = 0", "total 0 = 0", "place 0 = 1", "place 1 = 1");
        // Another board's result is not set against it.
        x.passOut(0, 2, 2, 3).due("points 0 0 = 0", "points 1 0 = 0", "points 1 1 = 0");
    }

    private static void pointsOfTheSame() {
        CHECKS.about(0, "20 for each with a lesser SCORE, 10 for each other one with the same");
        Run x = new Run(CHECKS).make("deal 1");
        for (int n = 1; n <= 20; n++) {
            x.passOut(0, 1, n - 1, 40 - n).due("points 0 0 = " + 10 * (n - 1), "points 0 1 = " + 10 * (n - 1));
            x.due("points " + (n - 1) + " 0 = " + 10 * (n - 1), "top 0 = " + 20 * (n - 1));
            x.due("total 39 = " + 10 * (n - 1));
        }
    }

    /** Board 1, of SUITS: 1440, 190, passed, -350, passed. */
    private static Run fiveResults() {
        Run x = new Run(CHECKS).deal(Deals.SUITS);
        int[] bids = {33, 3, 0, 7, 0};
        for (int i = 0; i < 5; i++) {
            x.make("begin 0 1 " + i + " " + (20 + i)).calls(0, bids[i], 0, 0, 0);
            if (bids[i] != 0) {
                x.suitTricks(0, 1, bids[i] == 7 ? 1 : 0, 9).make("claim 0 " + x.ask("best 0"));
            }
        }
        return x;
    }

    private static void pointsOfTheAdjusted() {
        CHECKS.about(0, "and 10 for each that is ADJUSTED");
        Run x = fiveResults().due("points 0 0 = 80", "points 1 0 = 60", "points 2 0 = 30", "points 3 0 = 0");
        x.due("points 0 1 = 0", "points 1 1 = 20", "points 2 1 = 50", "points 3 1 = 80", "points 4 1 = 50");
        // The best and the least count 10 for the others, the one that was passed as well.
        x.due("adjust 0 50 50 = 1", "points 0 0 = 40", "points 1 0 = 70", "points 2 0 = 40", "points 3 0 = 10");
        x.due("adjust 3 0 0 = 1", "points 3 1 = 0", "points 1 0 = 60", "points 1 1 = 20", "points 2 0 = 30");
        x.due("adjust 2 0 0 = 1", "points 4 0 = 30", "points 4 1 = 50", "points 1 0 = 50", "points 1 1 = 30");
        x.due("adjust 4 0 0 = 1", "points 1 0 = 40", "points 1 1 = 40", "adjust 1 99 1 = 1", "points 1 0 = 79");
        x.due("points 1 1 = 0", "points 0 0 = 40", "points 0 1 = 40", "total 1 = 79", "total 21 = 0", "top 1 = 80");
    }

    private static void partsAreCut() {
        CHECKS.about(0, "its own PART of 100 (0 .. 100) of 20 (n - 1), cut");
        Run x = new Run(CHECKS).make("deal 1").passOut(0, 1, 0, 1).passOut(0, 1, 2, 3);
        for (int part = 0; part <= 100; part++) {
            x.due("adjust 0 " + part + " " + (100 - part) + " = 1", "points 0 0 = " + part / 5);
            x.due("points 0 1 = " + (100 - part) / 5);
        }
    }

    private static void noSuchPoints() {
        CHECKS.about(24, "NONE if there is none such.");
        Run x = new Run(CHECKS).make("deal 1");
        x.each("points * 0", new int[] {MIN, -1, 0, 1, 199, 200, MAX}, -1).passOut(0, 1, 0, 1).passOut(0, 1, 2, 3);
        x.each("points * 0", Run.outside(0, 1), -1).each("points * 1", Run.outside(0, 1), -1);
        x.each("points 0 *", Run.outside(0, 1), -1).each("points 1 *", Run.outside(0, 1), -1);
        x.each("points 2 *", Run.range(-1, 2), -1).due("adjust 0 50 50 = 1").each("points 0 *", Run.outside(0, 1), -1);
        x.due("points 0 0 = 10", "points 1 1 = 10");
    }

    private static void totals() {
        CHECKS.about(25, "All POINTS of a pair");
        // Pair 20 was side 1 of board 1 with nothing, and is side 0 of board 2; pair 0 the other way round.
        Run x = fiveResults().make("deal 1").passOut(0, 2, 20, 0).due("total 20 = 0", "top 20 = 80", "total 0 = 80");
        x.passOut(0, 2, 1, 39).due("total 20 = 10", "top 20 = 100", "total 0 = 90", "top 0 = 100", "total 1 = 70");
        x.due("total 39 = 10", "top 39 = 20", "adjust 5 100 0 = 1", "total 20 = 20", "total 0 = 80", "top 0 = 100");
        CHECKS.about(26, "20 (n - 1) for each of its results, n being those of its board");
        x.due("top 1 = 100", "top 2 = 80", "top 39 = 20", "adjust 0 0 0 = 1", "top 0 = 100", "total 0 = 0");
    }

    private static void noResultOfAPair() {
        CHECKS.about(25, "NONE if it has no result.");
        noResultOfAPair("total", 0);
        CHECKS.about(26, "NONE if it has no result.");
        noResultOfAPair("top", 0);
        CHECKS.about(27, "NONE if it has no result.");
        noResultOfAPair("place", 1);
    }

    /** What is asked is told of the outermost pairs once their board was passed, and of no others. */
    private static void noResultOfAPair(String call, int told) {
        Run x = new Run(CHECKS).each(call + " *", Run.range(0, 39), -1).make("deal 1", "begin 0 1 0 39");
        x.each(call + " *", Run.range(0, 39), -1).each(call + " *", Run.outside(0, 39), -1).calls(0, 0, 0, 0, 0);
        x.due(call + " 0", told).due(call + " 39", told).each(call + " *", Run.range(1, 38), -1);
        x.each(call + " *", Run.outside(0, 39), -1).due("begin 0 1 1 38 = 1").due(call + " 1", -1);
        x.due("leave 0 = 1").due(call + " 1", -1).due(call + " 38", -1).due(call + " 0", told);
    }

    private static void places() {
        CHECKS.about(27, "1 more than how many pairs have a greater part of what they could have");
        Run x = fiveResults();
        int[] due = {1, 3, 6, 9, 6};
        int[] others = {9, 8, 4, 1, 4};
        for (int i = 0; i < 5; i++) {
            x.due("place " + i + " = " + due[i], "place " + (20 + i) + " = " + others[i]);
        }
        // All the same: each is the first.
        Run y = new Run(CHECKS).make("deal 1");
        for (int i = 0; i < 20; i++) {
            y.passOut(0, 1, i, 39 - i);
        }
        y.each("place *", Run.range(0, 39), 1).due("adjust 0 50 51 = 1", "place 39 = 1", "place 0 = 2", "place 38 = 2");
        y.due("adjust 19 49 50 = 1", "place 19 = 40", "place 20 = 2", "place 0 = 2");
    }

    private static void placesOfHalf() {
        CHECKS.about(27, "(those that could have had nothing have a part of one half)");
        Run x = new Run(CHECKS).make("deal 1", "deal 2").passOut(0, 1, 0, 1).passOut(0, 1, 2, 3).passOut(0, 2, 39, 38);
        x.each("place *", new int[] {0, 1, 2, 3, 38, 39}, 1).due("adjust 0 55 45 = 1", "place 0 = 1", "place 39 = 2");
        x.due("place 38 = 2", "place 2 = 2", "place 1 = 6", "adjust 0 45 55 = 1", "place 0 = 6", "place 39 = 2");
        // Pairs without a result have no part: none of them is before or behind.
        x.due("place 4 = -1", "place 37 = -1", "adjust 2 0 100 = 1", "place 39 = 2", "place 38 = 2");
    }

    private static void placesOfEqualParts() {
        CHECKS.about(27, "1 more than how many pairs have a greater part of what they could have");
        // 10 of 20 and 20 of 40 are the same part, and 30 of 60 is; 13 of 20 is less than 27 of 40.
        Run x = new Run(CHECKS).make("deal 1", "deal 2").passOut(0, 1, 0, 1).passOut(0, 1, 2, 3);
        x.passOut(0, 2, 0, 11).passOut(0, 2, 12, 13).passOut(0, 2, 14, 15);
        x.due("total 0 = 30", "top 0 = 60", "total 1 = 10", "top 1 = 20", "total 12 = 20", "top 12 = 40");
        x.each("place *", new int[] {0, 1, 2, 3, 11, 12, 13, 14, 15}, 1);
        x.due("adjust 0 50 65 = 1", "total 1 = 13", "adjust 3 68 50 = 1", "total 12 = 27");
        x.due("place 12 = 1", "place 1 = 2");
        x.due("adjust 3 65 50 = 1", "total 12 = 26", "place 12 = 1", "place 1 = 1", "place 0 = 3", "place 15 = 3");
    }
}
