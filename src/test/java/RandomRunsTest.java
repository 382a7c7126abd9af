import java.util.Random;

/**
 * Long runs of calls, sensible and senseless ones, set against PlainClub call by call. With a number
 * as its argument it makes so many runs.
 */
public final class RandomRunsTest {
    private static final int RUNS = 300;
    /** An object promises nothing behind its 512th call; a step makes at most four. */
    private static final int LAST_STEP = 508;
    private static final int[] WILD = {
        -1, 0, 1, 2, 3, 4, 5, 7, 8, 9, 10, 12, 13, 14, 20, 35, 36, 37, 38, 39, 40, 51, 52, 53, 100, 101, 200, -2,
        1000, Integer.MAX_VALUE, Integer.MIN_VALUE, Integer.MIN_VALUE + 1,
    };

    private final Checks checks;
    private final int run;
    private final Random random;
    private final BridgeClub club = new BridgeClub();
    private final PlainClub plain = new PlainClub();
    /** How many tables this run uses, how often it passes, and how often it asks in place of acting. */
    private final int tables;
    private final int passing;
    private final int asking;
    private int calls;

    private RandomRunsTest(Checks checks, int run) {
        this.checks = checks;
        this.run = run;
        random = new Random(run);
        tables = 1 + random.nextInt(run % 3 == 0 ? 10 : 2);
        passing = run % 4 == 1 ? 97 : 40 + random.nextInt(50);
        asking = run % 5 == 2 ? 10 : 30;
    }

    public static void main(String[] args) {
        Checks checks = new Checks("RandomRunsTest");
        int runs = args.length > 0 ? Integer.parseInt(args[0]) : RUNS;
        for (int run = 0; run < runs; run++) {
            RandomRunsTest test = new RandomRunsTest(checks, run);
            while (test.calls <= LAST_STEP) {
                test.step();
            }
        }
        checks.end();
    }

    private void step() {
        if (calls == 0 || chance(2)) {
            int seed = random.nextInt();
            due("deal(" + seed + ")", club.deal(seed), plain.deal(seed));
        } else if (chance(asking)) {
            ask();
        } else if (chance(4)) {
            disturb();
        } else {
            goOn(random.nextInt(tables));
        }
    }

    private boolean chance(int percent) {
        return random.nextInt(100) < percent;
    }

    private int wild() {
        return WILD[random.nextInt(WILD.length)];
    }

    /** Mostly a number below the bound, else any. */
    private int some(int bound) {
        return chance(92) ? random.nextInt(Math.max(1, bound)) : wild();
    }

    private void due(String call, long got, long want) {
        calls++;
        checks.same("run " + run + ": " + call, got, want);
    }

    private void due(String call, boolean got, boolean want) {
        due(call, got ? 1 : 0, want ? 1 : 0);
    }

    private void goOn(int t) {
        int phase = plain.table(t, 3);
        if (phase == 0) {
            begin(t);
        } else if (phase == 1) {
            int bid = plain.table(t, 5) == -1 ? 3 : 3 + 5 * (plain.table(t, 5) - 1) + plain.table(t, 6) + 1;
            int c = chance(passing) ? 0 : chance(30) ? 1 + random.nextInt(2) : bid + random.nextInt(6);
            due("call(" + t + ", " + c + ")", club.call(t, c), plain.call(t, c));
        } else {
            int c = plain.aCardFrom(t, random.nextInt(52));
            due("play(" + t + ", " + c + ")", club.play(t, c), plain.play(t, c));
            lookAtEnding(t);
        }
    }

    private void lookAtEnding(int t) {
        int left = 13 - plain.table(t, 9) - plain.table(t, 10);
        if (plain.table(t, 3) != 2 || left > 4 || left == 4 && !chance(8)) {
            return;
        }
        due("best(" + t + ")", club.best(t), plain.best(t));
        due("bestCard(" + t + ")", club.bestCard(t), plain.bestCard(t));
        if (chance(10)) {
            int n = random.nextInt(6) - 1;
            due("claim(" + t + ", " + n + ")", club.claim(t, n), plain.claim(t, n));
        }
    }

    private void begin(int t) {
        int b = chance(95) ? 1 + random.nextInt(Math.max(1, plain.count(0))) : wild();
        int n = some(40);
        int e = some(40);
        due("begin(" + t + ", " + b + ", " + n + ", " + e + ")", club.begin(t, b, n, e), plain.begin(t, b, n, e));
    }

    private void disturb() {
        int t = some(tables);
        int a = some(52);
        int b = some(52);
        switch (random.nextInt(8)) {
            case 0: case 1:
                due("back(" + t + ")", club.back(t), plain.back(t));
                break;
            case 2:
                if (chance(30)) {
                    due("leave(" + t + ")", club.leave(t), plain.leave(t));
                }
                break;
            case 3:
                due("call(" + t + ", " + a + ")", club.call(t, a), plain.call(t, a));
                break;
            case 4:
                due("play(" + t + ", " + a + ")", club.play(t, a), plain.play(t, a));
                break;
            case 5:
                int board = some(plain.count(0) + 1);
                due("swap(" + board + ", " + a + ", " + b + ")", club.swap(board, a, b), plain.swap(board, a, b));
                break;
            case 6:
                int i = some(plain.count(1));
                int n = some(101);
                int e = some(101);
                due("adjust(" + i + ", " + n + ", " + e + ")", club.adjust(i, n, e), plain.adjust(i, n, e));
                break;
            default:
                begin(t);
                break;
        }
    }

    private void ask() {
        int t = some(tables);
        int x = some(52);
        int what = some(15);
        int i = some(plain.count(1));
        switch (random.nextInt(16)) {
            case 0:
                due("table(" + t + ", " + what + ")", club.table(t, what), plain.table(t, what));
                break;
            case 1:
                due("called(" + t + ", " + what + ")", club.called(t, what), plain.called(t, what));
                break;
            case 2:
                due("played(" + t + ", " + x + ")", club.played(t, x), plain.played(t, x));
                break;
            case 3:
                due("allowed(" + t + ", " + x + ")", club.allowed(t, x), plain.allowed(t, x));
                break;
            case 4:
                int seat = some(4);
                due("sees(" + t + ", " + seat + ", " + x + ")", club.sees(t, seat, x), plain.sees(t, seat, x));
                break;
            case 5:
                int who = some(4);
                int suit = some(4);
                due("lacks(" + t + ", " + who + ", " + suit + ")", club.lacks(t, who, suit), plain.lacks(t, who, suit));
                break;
            case 6:
                due("result(" + i + ", " + what + ")", club.result(i, what), plain.result(i, what));
                break;
            case 7:
                int side = some(2);
                due("points(" + i + ", " + side + ")", club.points(i, side), plain.points(i, side));
                break;
            case 8:
                int board = some(plain.count(0) + 1);
                int kind = some(4);
                due("board(" + board + ", " + kind + ")", club.board(board, kind), plain.board(board, kind));
                due("hand(" + board + ", " + x + ")", club.hand(board, x), plain.hand(board, x));
                break;
            case 9:
                int n = some(4);
                due("count(" + n + ")", club.count(n), plain.count(n));
                break;
            case 10:
                due("write(" + i + ")", club.write(i), plain.write(i));
                break;
            case 11:
                due("out(" + x % 12 + ")", club.out(x % 12), plain.out(x % 12));
                break;
            case 12:
                askNumbers();
                break;
            default:
                askPair(some(40));
                break;
        }
    }

    private void askPair(int pair) {
        due("total(" + pair + ")", club.total(pair), plain.total(pair));
        due("top(" + pair + ")", club.top(pair), plain.top(pair));
        due("place(" + pair + ")", club.place(pair), plain.place(pair));
    }

    private void askNumbers() {
        int a = random.nextInt(9000) - 4500;
        int b = chance(50) ? random.nextInt(9000) - 4500 : wild();
        due("steps(" + a + ", " + b + ")", club.steps(a, b), plain.steps(a, b));
        int l = some(8);
        int s = some(5);
        int d = some(3);
        int n = some(14);
        boolean v = chance(50);
        due("score(" + l + ", " + s + ", " + d + ", " + v + ", " + n + ")",
                club.score(l, s, d, v, n), plain.score(l, s, d, v, n));
        int t = some(11);
        due("plan(" + t + ", " + l + ", " + n + ", " + d + ")", club.plan(t, l, n, d), plain.plan(t, l, n, d));
    }
}
