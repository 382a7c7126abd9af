import java.lang.reflect.InvocationTargetException;
import java.lang.reflect.Method;
import java.util.ArrayList;
import java.util.HashMap;
import java.util.List;
import java.util.Map;
import java.util.Set;
import java.util.TreeSet;

/**
 * One object and what is asked of it, told as texts: "begin 0 1 2 3" is begin(0, 1, 2, 3), MIN and MAX are the
 * least and the greatest int, and a boolean answer counts 1 or 0. A run knows the calls that made it what it is,
 * so that a test can make it again; and it counts them, since nothing is promised behind the 512th.
 */
final class Run {
    static final int MOST_CALLS = 512;
    private static final Set<String> ACTING =
            Set.of("deal", "swap", "begin", "call", "play", "claim", "back", "leave", "adjust", "write");
    private static final Map<String, Method> METHODS = new HashMap<>();
    private static final Map<String, Object[]> ARGUMENTS = new HashMap<>();

    private final Checks checks;
    private final BridgeClub club = new BridgeClub();
    private final List<String> acted = new ArrayList<>();
    private int calls;

    Run(Checks checks) {
        this.checks = checks;
    }

    /** A new object, brought to where this one is. */
    Run again() {
        Run other = new Run(checks);
        for (String call : acted) {
            other.ask(call);
        }
        return other;
    }

    List<String> acted() {
        return acted;
    }

    int callsLeft() {
        return MOST_CALLS - calls;
    }

    long ask(String call) {
        if (calls == MOST_CALLS) {
            throw new IllegalStateException("a test made more than 512 calls: " + call);
        }
        calls++;
        if (ACTING.contains(nameOf(call))) {
            acted.add(call);
        }
        return ask(club, call);
    }

    /** Calls that only lead to where a test begins. */
    Run make(String... steps) {
        for (String call : steps) {
            ask(call);
        }
        return this;
    }

    /** Rows of a call and the answer that is due: "deal 1 = 1". */
    Run due(String... rows) {
        for (String row : rows) {
            String[] halves = row.split(" = ");
            due(halves[0], number(halves[1]));
        }
        return this;
    }

    Run due(String call, long answer) {
        checks.same(call, ask(call), answer);
        return this;
    }

    /** The same answer is due for each of the values in place of "*". */
    Run each(String call, int[] values, long answer) {
        for (int value : values) {
            due(call.replace("*", String.valueOf(value)), answer);
        }
        return this;
    }

    /** The calls of an auction at a table. */
    Run calls(int table, int... row) {
        for (int call : row) {
            ask("call " + table + " " + call);
        }
        return this;
    }

    Run cards(int table, int... row) {
        for (int card : row) {
            ask("play " + table + " " + card);
        }
        return this;
    }

    /** A board is dealt and its cards are swapped until they lie as a deal of Deals wants it. */
    Run deal(int kind) {
        return deal(Deals.seats(kind));
    }

    Run deal(int[] seats) {
        long board = ask("deal " + Deals.SEED);
        for (int[] two : Deals.swapsTo(seats)) {
            ask("swap " + board + " " + two[0] + " " + two[1]);
        }
        return this;
    }

    /** Four passes: the shortest way to a result. */
    Run passOut(int table, int board, int north, int east) {
        return make("begin " + table + " " + board + " " + north + " " + east).calls(table, 0, 0, 0, 0);
    }

    /** Tricks of a SUITS board, the first led by one seat, the others by the one that wins them all. */
    Run suitTricks(int table, int leader, int winner, int tricks) {
        for (int[] card : Deals.suitCards(leader, winner, tricks)) {
            cards(table, card);
        }
        return this;
    }

    /** A SUITS board at table 0: one seat bids first, one takes all tricks, and the last of these are claimed. */
    Run allTricks(int bidder, int winner, int... row) {
        deal(Deals.SUITS).make("begin 0 1 10 11");
        for (int i = 0; i < bidder; i++) {
            calls(0, 0);
        }
        calls(0, row).suitTricks(0, (bidder + 1) % 4, winner, 9);
        return make("claim 0 " + ask("best 0"));
    }

    static int[] range(int from, int to) {
        int[] all = new int[to - from + 1];
        for (int i = 0; i < all.length; i++) {
            all[i] = from + i;
        }
        return all;
    }

    /**
     * Numbers that are not from .. to: those next to it, the least and the greatest int, and some that would
     * be inside if only their lower bits were looked at.
     */
    static int[] outside(int from, int to) {
        Set<Integer> all = new TreeSet<>();
        for (int edge : new int[] {from, to}) {
            for (int far : new int[] {64, 256, 65536, Integer.MIN_VALUE}) {
                all.add(edge + far);
                all.add(edge - far);
            }
        }
        all.addAll(List.of(from - 1, to + 1, Integer.MIN_VALUE, Integer.MIN_VALUE + 1, Integer.MAX_VALUE));
        all.removeIf(value -> value >= from && value <= to);
        return all.stream().mapToInt(value -> value).toArray();
    }

    static boolean isRefusal(Object of, String call, long answer) {
        return answer == (methodOf(of, call).getReturnType() == boolean.class ? 0 : -1);
    }

    /** Makes a call of a BridgeClub, or of a class with methods of the same names. */
    static long ask(Object of, String call) {
        try {
            Object answer = methodOf(of, call).invoke(of, argumentsOf(call));
            return answer instanceof Boolean ? ((Boolean) answer ? 1 : 0) : (Integer) answer;
        } catch (InvocationTargetException e) {
            throw new IllegalStateException(call + " threw", e.getCause());
        } catch (IllegalAccessException e) {
            throw new IllegalStateException(call, e);
        }
    }

    private static String nameOf(String call) {
        return call.substring(0, (call + " ").indexOf(' '));
    }

    private static Method methodOf(Object of, String call) {
        String key = of.getClass().getName() + "." + nameOf(call);
        if (!METHODS.containsKey(key)) {
            for (Method m : of.getClass().getDeclaredMethods()) {
                METHODS.put(of.getClass().getName() + "." + m.getName(), m);
            }
        }
        return METHODS.get(key);
    }

    private static Object[] argumentsOf(String call) {
        return ARGUMENTS.computeIfAbsent(call, text -> {
            String[] words = text.split(" ");
            Object[] made = new Object[words.length - 1];
            for (int i = 0; i < made.length; i++) {
                boolean isTruth = words[i + 1].equals("true") || words[i + 1].equals("false");
                made[i] = isTruth ? (Object) Boolean.valueOf(words[i + 1]) : (Object) number(words[i + 1]);
            }
            return made;
        });
    }

    private static int number(String word) {
        switch (word) {
            case "MIN":
                return Integer.MIN_VALUE;
            case "MAX":
                return Integer.MAX_VALUE;
            default:
                return Integer.parseInt(word);
        }
    }
}
