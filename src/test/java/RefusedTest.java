import java.util.ArrayList;
import java.util.LinkedHashMap;
import java.util.List;
import java.util.Map;
import java.util.Set;
import java.util.TreeSet;

/**
 * "What is refused changes nothing.": in states of every kind each call that acts is made with arguments at their
 * bounds and beyond, one of them at a time. Where it is refused, everything that can be asked of the object is
 * answered as without it, and what is done next goes as without it. A call or card that is taken back likewise.
 */
public final class RefusedTest {
    private static final Checks CHECKS = new Checks("RefusedTest");

    private final String name;
    private final Run state;
    private final PlainClub plain = new PlainClub();
    private final List<String> questions = new ArrayList<>();
    private final List<String> next = new ArrayList<>();
    private final List<Long> before;

    private RefusedTest(String name, Run state) {
        this.name = name;
        this.state = state;
        for (String call : state.acted()) {
            Run.ask(plain, call);
        }
        questionsOfBoards();
        questionsOfTables();
        questionsOfResults();
        whatIsDoneNext();
        before = answers();
    }

    public static void main(String[] args) {
        CHECKS.about(0, "What is refused changes nothing.");
        for (Map.Entry<String, Run> entry : states().entrySet()) {
            RefusedTest test = new RefusedTest(entry.getKey(), entry.getValue());
            test.asTheSecondModel();
            test.refusals();
            test.questionsChangeNothing();
            test.takenBack();
        }
        CHECKS.end();
    }

    private static Map<String, Run> states() {
        Map<String, Run> all = new LinkedHashMap<>();
        all.put("new", new Run(CHECKS));
        all.put("one board", new Run(CHECKS).make("deal 1"));
        Run full = new Run(CHECKS);
        for (int b = 1; b <= 36; b++) {
            full.make("deal " + b);
        }
        all.put("36 boards", full.make("begin 9 36 0 39"));
        all.put("begun", new Run(CHECKS).make("deal 1", "deal 2", "begin 9 1 0 39"));
        all.put("three passes", new Run(CHECKS).make("deal 1", "begin 0 1 0 1").calls(0, 0, 0, 0));
        all.put("doubled", new Run(CHECKS).make("deal 1", "deal 2", "begin 0 2 3 4").calls(0, 0, 7, 1));
        all.put("redoubled", new Run(CHECKS).make("deal 1", "begin 0 1 3 4").calls(0, 37, 1, 2, 0, 0));
        all.put("left", new Run(CHECKS).make("deal 1", "deal 2", "begin 0 1 3 4").calls(0, 3, 0, 0, 0).make("leave 0"));
        Run suits = new Run(CHECKS).deal(Deals.SUITS).make("begin 0 1 0 1").calls(0, 3, 0, 0, 0);
        all.put("play without cards", suits);
        all.put("play with shown suits", suits.again().suitTricks(0, 1, 0, 2).cards(0, 2, 15));
        all.put("five tricks left", suits.again().suitTricks(0, 1, 0, 8).cards(0, 8, 21, 34));
        all.put("four tricks left", suits.again().suitTricks(0, 1, 0, 9));
        all.put("one card left", suits.again().suitTricks(0, 1, 0, 12).cards(0, 12, 25, 38));
        Run round = new Run(CHECKS).deal(Deals.ROUND).make("begin 3 1 5 6").calls(3, 0, 5, 1, 0, 0, 0);
        all.put("the suit must be followed", round.cards(3, 2, 3, 0, 1, 15));
        all.put("results", results());
        Run busy = new Run(CHECKS);
        for (int t = 0; t <= 9; t++) {
            busy.make("deal " + t, "begin " + t + " " + (t + 1) + " " + t + " " + (39 - t));
        }
        all.put("ten tables", busy.make("deal 10").calls(4, 3, 0, 0, 0).calls(5, 0, 0));
        return all;
    }

    /** Scores, one that was passed and one that is ADJUSTED, what is WRITTEN, and a table that plays on. */
    private static Run results() {
        Run x = new Run(CHECKS).deal(Deals.SUITS).make("deal 3", "begin 0 1 0 1").calls(0, 3, 1, 0, 0, 0);
        x.suitTricks(0, 1, 0, 12).make("claim 0 1").passOut(0, 1, 2, 3).passOut(0, 1, 4, 5).passOut(0, 2, 1, 2);
        return x.make("adjust 2 60 35", "write 0", "begin 0 2 0 3").calls(0, 4, 0, 0);
    }

    // ---- everything that can be asked

    private void ask(String call, int[] values) {
        for (int value : values) {
            questions.add(call.replace("*", String.valueOf(value)));
        }
    }

    private void questionsOfBoards() {
        ask("count *", Run.range(-1, 4));
        int boards = plain.count(0);
        for (int b = 0; b <= boards + 1; b++) {
            ask("board " + b + " *", Run.range(0, 3));
            // Of many boards the first, the last and one of them are enough.
            if (b <= 2 || b >= boards) {
                ask("hand " + b + " *", Run.range(0, 51));
            }
        }
    }

    private void questionsOfTables() {
        for (int t = 0; t <= 9; t++) {
            ask("table " + t + " *", Run.range(0, 13));
            ask("called " + t + " *", Run.range(0, Math.max(plain.table(t, 12), 0)));
            ask("best *", new int[] {t});
            ask("bestCard *", new int[] {t});
            if (plain.table(t, 3) == 0) {
                continue;
            }
            ask("played " + t + " *", Run.range(0, 51));
            ask("allowed " + t + " *", Run.range(0, 51));
            for (int seat = 0; seat <= 3; seat++) {
                ask("sees " + t + " " + seat + " *", Run.range(0, 51));
                ask("lacks " + t + " " + seat + " *", Run.range(0, 3));
            }
        }
    }

    private void questionsOfResults() {
        for (int i = 0; i <= plain.count(1); i++) {
            ask("result " + i + " *", Run.range(0, 9));
            ask("points " + i + " *", Run.range(0, 1));
        }
        ask("total *", Run.range(0, 39));
        ask("top *", Run.range(0, 39));
        ask("place *", Run.range(0, 39));
        ask("out *", Run.range(0, 10));
    }

    /** Calls that tell by how they go whether something changed that cannot be asked for. */
    private void whatIsDoneNext() {
        for (int b = 1; b <= plain.count(0); b++) {
            next.add("swap " + b + " 0 51");
            next.add("hand " + b + " 0");
        }
        for (int t = 0; t <= 9; t++) {
            next.add("call " + t + " 0");
            next.add("table " + t + " 12");
            next.add("back " + t);
            next.add("back " + t);
            next.add("table " + t + " 4");
            next.add("leave " + t);
        }
        next.add("deal 99");
        next.add("hand " + (plain.count(0) + 1) + " 0");
        for (int t = 0; t <= 9; t++) {
            next.add("begin " + t + " " + (t + 1) + " " + (2 * t) + " " + (2 * t + 1));
            next.add("table " + t + " 5");
        }
        next.add("write 0");
        next.add("out 0");
    }

    /** The answers to all questions behind some calls, with as many objects as the 512 calls of one demand. */
    private List<Long> answers(String... calls) {
        List<Long> all = new ArrayList<>();
        Run x = state.again().make(calls);
        for (String question : questions) {
            if (x.callsLeft() == 0) {
                x = state.again().make(calls);
            }
            all.add(x.ask(question));
        }
        x = state.again().make(calls);
        for (String call : next) {
            all.add(x.ask(call));
        }
        return all;
    }

    private void sameAnswers(String... calls) {
        List<Long> now = answers(calls);
        int other = -1;
        for (int i = now.size() - 1; i >= 0; i--) {
            other = now.get(i).equals(before.get(i)) ? other : i;
        }
        String what = name + ": behind " + String.join(", ", calls) + " ";
        if (other == -1) {
            CHECKS.same(what, 0, 0);
        } else {
            String call = other < questions.size() ? questions.get(other) : next.get(other - questions.size());
            CHECKS.same(what + call, now.get(other), before.get(other));
        }
    }

    // ---- what is done

    private void asTheSecondModel() {
        for (int i = 0; i < questions.size(); i++) {
            // The second model looks at every way to play, which is too slow for four whole tricks.
            if (!questions.get(i).startsWith("best")) {
                CHECKS.same(name + ": " + questions.get(i), before.get(i), Run.ask(plain, questions.get(i)));
            }
        }
    }

    private void refusals() {
        int refused = 0;
        for (String call : acts()) {
            long answer = state.again().ask(call);
            CHECKS.same(name + ": " + call, answer, answerDue(call));
            if (Run.isRefusal(plain, call, answer)) {
                sameAnswers(call);
                refused++;
            }
        }
        CHECKS.yes(name + ": many calls are refused", refused > 100);
    }

    private long answerDue(String call) {
        if (call.startsWith("claim")) {
            int table = Integer.parseInt(call.split(" ")[1]);
            int due = claimDue(table);
            return due != -1 && call.equals("claim " + table + " " + due) ? 1 : 0;
        }
        PlainClub fresh = new PlainClub();
        for (String made : state.acted()) {
            Run.ask(fresh, made);
        }
        return Run.ask(fresh, call);
    }

    /** North has all trumps in the states that are so far: all tricks left. -1 is no number to claim. */
    private int claimDue(int table) {
        int left = 13 - plain.table(table, 9) - plain.table(table, 10);
        return plain.table(table, 3) == 2 && left <= 4 ? left : -1;
    }

    /** Each call that acts, its arguments being good ones but for one (or none). */
    private Set<String> acts() {
        Set<String> all = new TreeSet<>();
        int boards = plain.count(0);
        all.addAll(List.of("deal 0", "deal MIN", "deal MAX"));
        vary(all, "swap * 0 51", Run.outside(1, Math.max(boards, 1)), 1, 2, boards);
        vary(all, "swap 1 * 51", Run.outside(0, 51), 0, 51);
        vary(all, "swap 1 0 *", Run.outside(0, 51), 0, 51);
        vary(all, "begin * 2 7 8", Run.outside(0, 9), 0, 1, 3, 4, 9);
        vary(all, "begin 1 * 7 8", Run.outside(1, Math.max(boards, 1)), 1, 2, 3, boards);
        vary(all, "begin 1 2 * 8", Run.outside(0, 39), 0, 1, 2, 3, 4, 5, 6, 8, 39);
        vary(all, "begin 1 2 7 *", Run.outside(0, 39), 0, 1, 2, 3, 4, 5, 6, 7, 39);
        for (int t : new int[] {0, 3, 9}) {
            vary(all, "call " + t + " *", Run.outside(0, 37), 0, 1, 2, 3, 4, 5, 7, 8, 37);
            vary(all, "play " + t + " *", Run.outside(0, 51), 0, 1, 2, 12, 13, 14, 16, 25, 26, 28, 38, 39, 47, 51);
            vary(all, "claim " + t + " *", Run.outside(0, 4), 0, 1, 2, 3, 4);
        }
        vary(all, "call * 0", Run.outside(0, 9), 1, 8);
        vary(all, "play * 13", Run.outside(0, 9), 1, 8);
        vary(all, "claim * 4", Run.outside(0, 9), 1, 8);
        vary(all, "back *", Run.outside(0, 9), Run.range(0, 9));
        vary(all, "leave *", Run.outside(0, 9), Run.range(0, 9));
        int results = plain.count(1);
        vary(all, "adjust * 50 50", Run.outside(0, results), 0, 1, results);
        vary(all, "adjust 2 * 50", Run.outside(0, 100), 0, 100);
        vary(all, "adjust 2 50 *", Run.outside(0, 100), 0, 100);
        vary(all, "write *", Run.outside(0, results), 0, 1, results);
        return all;
    }

    private static void vary(Set<String> all, String call, int[] bad, int... good) {
        for (int[] values : new int[][] {bad, good}) {
            for (int value : values) {
                all.add(call.replace("*", String.valueOf(value)));
            }
        }
    }

    /** Questions are no acts: a hundred of them, best() among them, leave all as it was. */
    private void questionsChangeNothing() {
        List<String> some = new ArrayList<>();
        for (int i = 0; i < 100; i++) {
            some.add(questions.get(i * questions.size() / 100));
        }
        some.addAll(List.of("best 0", "bestCard 0", "score 1 0 0 true 7", "steps 1 2", "plan 4 1 2 1", "out 1"));
        sameAnswers(some.toArray(new String[0]));
    }

    private void takenBack() {
        for (int t = 0; t <= 9; t++) {
            for (int x = 0; x <= 51 && plain.table(t, 3) != 0; x++) {
                String act = (plain.table(t, 3) == 1 ? "call " : "play ") + t + " " + x;
                long answer = state.again().ask(act);
                if (answer == 0 || answer == 1 && state.again().make(act).ask("count 1") == plain.count(1)) {
                    sameAnswers(act, "back " + t);
                }
            }
        }
    }
}
