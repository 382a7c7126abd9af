import java.util.Random;

/** No call may throw, whatever its arguments are and however many calls came before. */
public final class WildTest {
    private static final Checks CHECKS = new Checks("WildTest");
    private static final int[] ODD = {
        Integer.MIN_VALUE, Integer.MIN_VALUE + 1, -65536, -100, -53, -52, -5, -4, -3, -2, -1, 52, 53, 63, 64, 65,
        100, 101, 127, 128, 199, 200, 201, 209, 210, 211, 318, 319, 320, 65536, Integer.MAX_VALUE - 1,
        Integer.MAX_VALUE,
    };

    public static void main(String[] args) {
        for (int seed = 0; seed < 60; seed++) {
            oddArguments(new BridgeClub(), new Random(seed), 3000);
        }
        manyResults();
        CHECKS.end();
    }

    private static int any(Random r, int bound) {
        return r.nextInt(10) < 8 ? r.nextInt(bound) : ODD[r.nextInt(ODD.length)];
    }

    private static void oddArguments(BridgeClub x, Random r, int calls) {
        int thrown = 0;
        for (int i = 0; i < calls; i++) {
            try {
                if (r.nextInt(3) > 0) {
                    goOn(x, r);
                } else {
                    oneCall(x, r);
                }
            } catch (RuntimeException e) {
                thrown++;
                System.out.println(e + " at " + e.getStackTrace()[0]);
            }
        }
        CHECKS.same("calls that threw", thrown, 0);
    }

    private static void goOn(BridgeClub x, Random r) {
        int t = r.nextInt(3);
        int phase = x.table(t, 3);
        if (phase == 0) {
            x.begin(t, 1 + r.nextInt(36), r.nextInt(40), r.nextInt(40));
        } else if (phase == 1) {
            x.call(t, r.nextInt(3) > 0 ? 0 : r.nextInt(38));
        } else {
            int c = r.nextInt(52);
            for (int i = 0; i < 52 && !x.allowed(t, c); i++) {
                c = (c + 1) % 52;
            }
            x.play(t, c);
        }
    }

    private static void oneCall(BridgeClub x, Random r) {
        int t = any(r, 3);
        int c = any(r, 52);
        int d = any(r, 52);
        int s = any(r, 15);
        int q = any(r, 5);
        switch (r.nextInt(30)) {
            case 0: x.deal(c); break;
            case 1: x.swap(s, c, d); break;
            case 2: x.hand(s, c); break;
            case 3: x.board(s, q); break;
            case 4: x.begin(t, s, any(r, 40), any(r, 40)); break;
            case 5: x.call(t, any(r, 38)); break;
            case 6: x.play(t, c); break;
            case 7: x.claim(t, q); break;
            case 8: x.back(t); break;
            case 9: if (r.nextInt(10) == 0) { x.leave(t); } break;
            case 10: x.table(t, s); break;
            case 11: x.called(t, c); break;
            case 12: x.played(t, c); break;
            case 13: x.allowed(t, c); break;
            case 14: x.sees(t, q, c); break;
            case 15: x.lacks(t, q, d); break;
            case 16: x.best(t); break;
            case 17: x.bestCard(t); break;
            case 18: x.result(c, s); break;
            case 19: x.adjust(s, any(r, 101), any(r, 101)); break;
            case 20: x.score(q, any(r, 5), any(r, 3), c % 2 == 0, s); break;
            case 21: x.steps(c, d); break;
            case 22: x.points(s, q); break;
            case 23: x.total(any(r, 40)); break;
            case 24: x.top(any(r, 40)); break;
            case 25: x.place(any(r, 40)); break;
            case 26: x.plan(s, q, any(r, 10), any(r, 3)); break;
            case 27: x.write(s); break;
            case 28: x.out(s); break;
            default: x.count(q); break;
        }
    }

    /** Far behind the 512th call: the answers are free there, but nothing may throw. */
    private static void manyResults() {
        BridgeClub x = new BridgeClub();
        for (int b = 0; b < 40; b++) {
            x.deal(b);
        }
        for (int i = 0; i < 199; i++) {
            Deals.passOut(x, i % 10, 1 + i % 36, 2 * (i / 36), 2 * (i / 36) + 1);
        }
        for (int t = 0; t < 10; t++) {
            x.begin(t, 1 + t, 20 + 2 * t, 21 + 2 * t);
        }
        for (int t = 0; t < 10; t++) {
            Deals.calls(x, t, 0, 0, 0, 0);
        }
        CHECKS.no("no more results", x.begin(0, 30, 20, 21));
        CHECKS.yes("all that was begun came to its end", x.count(1) == 209 && x.count(2) == 0);
        CHECKS.yes("totals of many results", x.total(0) >= 0 && x.place(0) >= 1);
    }
}
