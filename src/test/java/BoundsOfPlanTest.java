/** The boundary cases of part 4 of the terms and of promise 28. */
public final class BoundsOfPlanTest {
    private static final Checks CHECKS = new Checks("BoundsOfPlanTest");

    public static void main(String[] args) {
        noSuchPlan();
        noSuchRound();
        noSuchTable();
        nothingElse();
        firstAndLast();
        skipAtHalf();
        modulo();
        planOfAUsedObject();
        CHECKS.end();
    }

    private static int rounds(int t) {
        return t % 2 == 0 ? t - 1 : t;
    }

    private static void noSuchPlan() {
        CHECKS.about(0, "A PLAN for t tables (3 .. 10)");
        Run x = new Run(CHECKS);
        for (int what = 0; what <= 2; what++) {
            x.each("plan * 0 0 " + what, Run.outside(3, 10), -1).each("plan * 0 0 " + what, Run.range(-2, 2), -1);
            x.each("plan * 1 1 " + what, Run.range(0, 2), -1);
        }
        x.due("plan 3 0 0 0 = 0", "plan 3 0 0 1 = 3", "plan 3 0 0 2 = 0", "plan 10 0 0 1 = 10", "plan 10 0 9 1 = 19");
    }

    private static void noSuchRound() {
        CHECKS.about(0, "has t rounds, of t even t - 1");
        for (int t = 3; t <= 10; t++) {
            Run x = new Run(CHECKS);
            for (int what = 0; what <= 2; what++) {
                x.each("plan " + t + " * 0 " + what, Run.outside(0, rounds(t) - 1), -1);
                x.each("plan " + t + " * " + (t - 1) + " " + what, Run.outside(0, rounds(t) - 1), -1);
            }
            for (int r = 0; r < rounds(t); r++) {
                x.due("plan " + t + " " + r + " 0 0 = 0", "plan " + t + " " + r + " 0 2 = " + r);
            }
        }
    }

    private static void noSuchTable() {
        CHECKS.about(28, "in round r at table k: 0 the pair of side 0, 1 that of side 1, 2 the set of boards; "
                + "NONE for what isn't");
        for (int t = 3; t <= 10; t++) {
            Run x = new Run(CHECKS);
            for (int what = 0; what <= 2; what++) {
                x.each("plan " + t + " 0 * " + what, Run.outside(0, t - 1), -1);
                x.each("plan " + t + " " + (rounds(t) - 1) + " * " + what, Run.outside(0, t - 1), -1);
            }
            for (int k = 0; k < t; k++) {
                x.due("plan " + t + " 0 " + k + " 0 = " + k, "plan " + t + " 0 " + k + " 1 = " + (t + k));
                x.due("plan " + t + " 0 " + k + " 2 = " + k);
            }
        }
    }

    private static void nothingElse() {
        CHECKS.about(28, "NONE for what isn't");
        Run x = new Run(CHECKS);
        for (int t = 3; t <= 10; t++) {
            x.each("plan " + t + " 0 0 *", Run.outside(0, 2), -1);
            x.each("plan " + t + " 1 2 *", Run.outside(0, 2), -1);
        }
    }

    private static void firstAndLast() {
        CHECKS.about(0, "pair k for side 0; for side 1 pair t + (k - r - s) modulo t; boards of set (k + r) modulo t");
        Run x = new Run(CHECKS);
        x.due("plan 3 2 0 1 = 4", "plan 3 2 2 1 = 3", "plan 3 2 2 2 = 1", "plan 3 2 1 2 = 0", "plan 3 0 2 1 = 5");
        x.due("plan 4 2 0 1 = 5", "plan 4 2 3 1 = 4", "plan 4 2 3 2 = 1", "plan 4 1 0 1 = 7", "plan 4 1 3 2 = 0");
        x.due("plan 9 8 0 1 = 10", "plan 9 8 8 1 = 9", "plan 9 8 8 2 = 7", "plan 9 8 0 2 = 8", "plan 9 8 1 2 = 0");
        x.due("plan 10 8 0 1 = 11", "plan 10 8 9 1 = 10", "plan 10 8 9 2 = 7", "plan 10 8 8 1 = 19");
        x.due("plan 10 8 2 2 = 0", "plan 10 8 1 2 = 9");
    }

    private static void skipAtHalf() {
        CHECKS.about(0, "s is 1 if t is even and r is t / 2 or more, else 0");
        Run x = new Run(CHECKS);
        x.due("plan 4 1 3 1 = 6", "plan 4 2 3 1 = 4", "plan 6 2 5 1 = 9", "plan 6 3 5 1 = 7", "plan 6 4 5 1 = 6");
        x.due("plan 8 3 7 1 = 12", "plan 8 4 7 1 = 10", "plan 10 4 9 1 = 15", "plan 10 5 9 1 = 13");
        // Of t odd never: the rounds at and behind the half.
        x.due("plan 3 1 2 1 = 4", "plan 3 2 2 1 = 3", "plan 5 2 4 1 = 7", "plan 5 3 4 1 = 6", "plan 5 4 4 1 = 5");
        x.due("plan 7 3 6 1 = 10", "plan 7 4 6 1 = 9", "plan 9 4 8 1 = 13", "plan 9 5 8 1 = 12", "plan 9 8 8 1 = 9");
    }

    /** Every place of every plan, the modulo being found by steps of t. */
    private static void modulo() {
        CHECKS.about(0, "(Modulo: 0 .. t - 1.)");
        for (int t = 3; t <= 10; t++) {
            Run x = new Run(CHECKS);
            for (int r = 0; r < rounds(t); r++) {
                for (int k = 0; k < t; k++) {
                    int east = k - r - (t % 2 == 0 && r + r >= t ? 1 : 0);
                    int set = k + r;
                    String at = "plan " + t + " " + r + " " + k;
                    x.due(at + " 0", k).due(at + " 1", t + (east < 0 ? east + t : east));
                    x.due(at + " 2", set >= t ? set - t : set);
                }
            }
        }
    }

    private static void planOfAUsedObject() {
        CHECKS.about(28, "In a PLAN for t tables");
        Run x = new Run(CHECKS).make("deal 1", "begin 3 1 0 1").passOut(0, 1, 2, 3);
        x.due("plan 4 2 0 1 = 5", "plan 11 0 0 0 = -1", "table 3 3 = 1", "leave 3 = 1", "plan 4 2 0 1 = 5");
    }
}
