import java.util.ArrayList;
import java.util.Arrays;
import java.util.HashSet;
import java.util.List;
import java.util.Set;
import java.util.TreeSet;

/**
 * The document a second time, written as plainly as it can be: everything is found anew from the
 * lists of calls and cards, and an ending is looked at whole. RandomRunsTest sets the program against it.
 */
final class PlainClub {
    static final int NONE = -1;

    static final class Deal {
        final int[] seatOf = new int[52];
        boolean begun;
    }

    static final class Seating {
        int board;
        int[] pairs;
        final List<Integer> calls = new ArrayList<>();
        final List<Integer> cards = new ArrayList<>();
    }

    static final class Outcome {
        int board;
        int[] pairs;
        int level;
        int strain = NONE;
        int declarer = NONE;
        int doubled = NONE;
        int tricks = NONE;
        int score;
        int[] parts;
    }

    private final List<Deal> deals = new ArrayList<>();
    private final Seating[] seatings = new Seating[10];
    private final List<Outcome> outcomes = new ArrayList<>();
    private String written = "";

    int deal(int seed) {
        if (deals.size() == 36) {
            return NONE;
        }
        int[] row = new int[52];
        for (int i = 0; i < 52; i++) {
            row[i] = i;
        }
        long state = seed;
        for (int i = 51; i >= 1; i--) {
            state = (state * 1103515245L + 12345L) & 0xFFFFFFFFL;
            int j = (int) ((state >> 16) % (i + 1));
            int was = row[i];
            row[i] = row[j];
            row[j] = was;
        }
        Deal made = new Deal();
        for (int k = 0; k < 52; k++) {
            made.seatOf[row[k]] = k % 4;
        }
        deals.add(made);
        return deals.size();
    }

    private Deal dealOf(int board) {
        return board >= 1 && board <= deals.size() ? deals.get(board - 1) : null;
    }

    private static boolean within(int x, int from, int to) {
        return x >= from && x <= to;
    }

    boolean swap(int board, int a, int b) {
        Deal d = dealOf(board);
        if (d == null || d.begun || !within(a, 0, 51) || !within(b, 0, 51)) {
            return false;
        }
        int was = d.seatOf[a];
        d.seatOf[a] = d.seatOf[b];
        d.seatOf[b] = was;
        return true;
    }

    int hand(int board, int card) {
        Deal d = dealOf(board);
        return d == null || !within(card, 0, 51) ? NONE : d.seatOf[card];
    }

    /** As it stands on real boards 1 to 16: o none, n north and south, e east and west, b both. */
    private static int vulnerable(int board) {
        return "oneb".indexOf("onebneboebonbone".charAt((board - 1) % 16));
    }

    int board(int board, int what) {
        if (dealOf(board) == null) {
            return NONE;
        }
        if (what == 0) {
            return (board + 3) % 4;
        }
        if (what == 1) {
            return vulnerable(board);
        }
        if (what == 2) {
            return (int) outcomes.stream().filter(o -> o.board == board).count();
        }
        if (what == 3) {
            for (int t = 0; t < 10; t++) {
                if (seatings[t] != null && seatings[t].board == board) {
                    return t;
                }
            }
        }
        return NONE;
    }

    boolean begin(int table, int board, int north, int east) {
        if (!within(table, 0, 9) || dealOf(board) == null || !within(north, 0, 39) || !within(east, 0, 39)) {
            return false;
        }
        if (north == east || seatings[table] != null || outcomes.size() >= 200) {
            return false;
        }
        for (Seating s : seatings) {
            if (s != null && (s.board == board || hasAny(s.pairs, north, east))) {
                return false;
            }
        }
        for (Outcome o : outcomes) {
            if (o.board == board && hasAny(o.pairs, north, east)) {
                return false;
            }
        }
        Seating s = new Seating();
        s.board = board;
        s.pairs = new int[] {north, east};
        seatings[table] = s;
        dealOf(board).begun = true;
        return true;
    }

    private static boolean hasAny(int[] pairs, int a, int b) {
        return pairs[0] == a || pairs[0] == b || pairs[1] == a || pairs[1] == b;
    }

    private Seating at(int table) {
        return within(table, 0, 9) ? seatings[table] : null;
    }

    private static String letters(Seating s) {
        StringBuilder b = new StringBuilder();
        for (int c : s.calls) {
            b.append(c == 0 ? 'p' : c == 1 ? 'x' : c == 2 ? 'r' : 'b');
        }
        return b.toString();
    }

    private static boolean isOver(Seating s) {
        return letters(s).equals("pppp") || letters(s).matches(".*[xrb]ppp");
    }

    private static int latestBid(Seating s) {
        return s.calls.stream().mapToInt(c -> c).filter(c -> c >= 3).max().orElse(NONE);
    }

    private static boolean mayCall(Seating s, int call) {
        if (!within(call, 0, 37)) {
            return false;
        }
        String l = letters(s);
        if (call == 1) {
            return l.matches(".*b(pp)?");
        }
        if (call == 2) {
            return l.matches(".*x(pp)?");
        }
        return call == 0 || call > latestBid(s);
    }

    int call(int table, int call) {
        Seating s = at(table);
        if (s == null || isOver(s) || !mayCall(s, call)) {
            return NONE;
        }
        s.calls.add(call);
        if (!isOver(s)) {
            return 0;
        }
        if (latestBid(s) != NONE) {
            return 1;
        }
        end(table, 0);
        return 2;
    }

    private static int doubling(Seating s) {
        String l = letters(s);
        String behind = l.substring(l.lastIndexOf('b') + 1);
        return behind.indexOf('r') >= 0 ? 2 : behind.indexOf('x') >= 0 ? 1 : 0;
    }

    private static int strain(Seating s) {
        return (latestBid(s) + 2) % 5;
    }

    private static int level(Seating s) {
        return (latestBid(s) + 2) / 5;
    }

    private static int declarer(Seating s) {
        int dealer = (s.board + 3) % 4;
        int side = (dealer + s.calls.indexOf(latestBid(s))) % 2;
        for (int i = 0; i < s.calls.size(); i++) {
            int c = s.calls.get(i);
            if (c >= 3 && (c + 2) % 5 == strain(s) && (dealer + i) % 2 == side) {
                return (dealer + i) % 4;
            }
        }
        return NONE;
    }

    /** How the cards stand: hands, the trick, and who has won what. */
    private static final class Standing {
        final List<TreeSet<Integer>> hands = new ArrayList<>();
        final List<Integer> trick = new ArrayList<>();
        final Set<Integer> shown = new HashSet<>();
        int leader;
        final int[] won = new int[2];
        int trump;

        int turn() {
            return (leader + trick.size()) % 4;
        }

        TreeSet<Integer> choices() {
            TreeSet<Integer> own = hands.get(turn());
            if (trick.isEmpty()) {
                return new TreeSet<>(own);
            }
            TreeSet<Integer> follow = new TreeSet<>();
            for (int c : own) {
                if (c / 13 == trick.get(0) / 13) {
                    follow.add(c);
                }
            }
            return follow.isEmpty() ? new TreeSet<>(own) : follow;
        }

        void put(int card) {
            hands.get(turn()).remove(card);
            if (!trick.isEmpty() && card / 13 != trick.get(0) / 13) {
                shown.add(turn() * 4 + trick.get(0) / 13);
            }
            trick.add(card);
            if (trick.size() == 4) {
                int first = 0;
                for (int i = 1; i < 4; i++) {
                    if (worth(trick.get(i)) > worth(trick.get(first))) {
                        first = i;
                    }
                }
                leader = (leader + first) % 4;
                won[leader % 2]++;
                trick.clear();
            }
        }

        private int worth(int card) {
            return card % 13 + (card / 13 == trump ? 200 : card / 13 == trick.get(0) / 13 ? 100 : 0);
        }

        Standing copy() {
            Standing c = new Standing();
            for (TreeSet<Integer> h : hands) {
                c.hands.add(new TreeSet<>(h));
            }
            c.trick.addAll(trick);
            c.leader = leader;
            c.won[0] = won[0];
            c.won[1] = won[1];
            c.trump = trump;
            return c;
        }

        /** All tricks of the side at the end, every card of every seat being tried. */
        int finalTricks(int side) {
            TreeSet<Integer> choices = choices();
            if (choices.isEmpty()) {
                return won[side];
            }
            int best = NONE;
            for (int card : choices) {
                Standing next = copy();
                next.put(card);
                int v = next.finalTricks(side);
                boolean isBetter = turn() % 2 == side ? v > best : v < best;
                best = best == NONE || isBetter ? v : best;
            }
            return best;
        }
    }

    private Standing standing(Seating s) {
        Standing st = new Standing();
        for (int i = 0; i < 4; i++) {
            st.hands.add(new TreeSet<>());
        }
        int[] seatOf = dealOf(s.board).seatOf;
        for (int c = 0; c < 52; c++) {
            st.hands.get(seatOf[c]).add(c);
        }
        st.leader = (declarer(s) + 1) % 4;
        st.trump = strain(s);
        for (int c : s.cards) {
            st.put(c);
        }
        return st;
    }

    /** For tests: the first card from this one on that may be played at a table in play. */
    int aCardFrom(int table, int card) {
        TreeSet<Integer> choices = standing(at(table)).choices();
        return choices.ceiling(card) != null ? choices.ceiling(card) : choices.first();
    }

    int play(int table, int card) {
        Seating s = at(table);
        if (s == null || !isOver(s) || !standing(s).choices().contains(card)) {
            return NONE;
        }
        s.cards.add(card);
        if (s.cards.size() == 52) {
            end(table, 0);
            return 2;
        }
        return s.cards.size() % 4 == 0 ? 1 : 0;
    }

    boolean claim(int table, int n) {
        int best = best(table);
        if (best == NONE || best != n) {
            return false;
        }
        end(table, n);
        return true;
    }

    private void end(int table, int claimed) {
        Seating s = seatings[table];
        Outcome o = new Outcome();
        o.board = s.board;
        o.pairs = s.pairs;
        if (latestBid(s) != NONE) {
            o.level = level(s);
            o.strain = strain(s);
            o.declarer = declarer(s);
            o.doubled = doubling(s);
            int side = o.declarer % 2;
            o.tricks = standing(s).won[side] + claimed;
            boolean v = vulnerable(s.board) == 3 || vulnerable(s.board) == side + 1;
            o.score = score(o.level, o.strain, o.doubled, v, o.tricks) * (side == 0 ? 1 : -1);
        }
        outcomes.add(o);
        seatings[table] = null;
    }

    boolean back(int table) {
        Seating s = at(table);
        if (s == null || s.calls.isEmpty()) {
            return false;
        }
        List<Integer> from = s.cards.isEmpty() ? s.calls : s.cards;
        from.remove(from.size() - 1);
        return true;
    }

    boolean leave(int table) {
        if (at(table) == null) {
            return false;
        }
        seatings[table] = null;
        return true;
    }

    int table(int table, int what) {
        Seating s = at(table);
        if (!within(table, 0, 9) || !within(what, 0, 13)) {
            return NONE;
        }
        if (s == null) {
            return what == 3 ? 0 : NONE;
        }
        boolean inPlay = isOver(s);
        boolean hasBid = latestBid(s) != NONE;
        Standing st = inPlay ? standing(s) : null;
        int[] all = {
            s.board, s.pairs[0], s.pairs[1], inPlay ? 2 : 1,
            inPlay ? st.turn() : (s.board + 3 + s.calls.size()) % 4,
            hasBid ? level(s) : NONE, hasBid ? strain(s) : NONE, inPlay ? declarer(s) : NONE,
            hasBid ? doubling(s) : NONE, inPlay ? st.won[0] : 0, inPlay ? st.won[1] : 0,
            s.cards.size() % 4, s.calls.size(), inPlay ? st.leader : NONE,
        };
        return all[what];
    }

    int called(int table, int i) {
        Seating s = at(table);
        return s == null || i < 0 || i >= s.calls.size() ? NONE : s.calls.get(i);
    }

    int played(int table, int i) {
        Seating s = at(table);
        return s == null || i < 0 || i >= s.cards.size() ? NONE : s.cards.get(i);
    }

    boolean allowed(int table, int x) {
        Seating s = at(table);
        return s != null && (isOver(s) ? standing(s).choices().contains(x) : mayCall(s, x));
    }

    boolean sees(int table, int seat, int card) {
        Seating s = at(table);
        if (s == null || !within(seat, 0, 3) || !within(card, 0, 51)) {
            return false;
        }
        int holder = dealOf(s.board).seatOf[card];
        boolean isDummys = !s.cards.isEmpty() && holder == (declarer(s) + 2) % 4;
        return holder == seat || s.cards.contains(card) || isDummys;
    }

    boolean lacks(int table, int seat, int suit) {
        Seating s = at(table);
        if (s == null || !isOver(s) || !within(seat, 0, 3) || !within(suit, 0, 3)) {
            return false;
        }
        return standing(s).shown.contains(seat * 4 + suit);
    }

    int best(int table) {
        Seating s = at(table);
        if (s == null || !isOver(s) || s.cards.size() < 36) {
            return NONE;
        }
        int side = declarer(s) % 2;
        Standing st = standing(s);
        return st.finalTricks(side) - st.won[side];
    }

    int bestCard(int table) {
        int best = best(table);
        if (best == NONE) {
            return NONE;
        }
        Seating s = at(table);
        int side = declarer(s) % 2;
        Standing st = standing(s);
        for (int card : st.choices()) {
            Standing next = st.copy();
            next.put(card);
            if (next.finalTricks(side) - st.won[side] == best) {
                return card;
            }
        }
        return NONE;
    }

    private Outcome outcome(int i) {
        return i >= 0 && i < outcomes.size() ? outcomes.get(i) : null;
    }

    int result(int i, int what) {
        Outcome o = outcome(i);
        if (o == null) {
            return what == 8 ? Integer.MIN_VALUE : NONE;
        }
        int[] all = {
            o.board, o.pairs[0], o.pairs[1], o.level, o.strain, o.declarer, o.doubled, o.tricks, o.score,
            o.parts == null ? 0 : 1,
        };
        return within(what, 0, 9) ? all[what] : NONE;
    }

    boolean adjust(int i, int north, int east) {
        if (outcome(i) == null || !within(north, 0, 100) || !within(east, 0, 100)) {
            return false;
        }
        outcome(i).parts = new int[] {north, east};
        return true;
    }

    int score(int level, int strain, int doubled, boolean vulnerable, int tricks) {
        if (!within(level, 1, 7) || !within(strain, 0, 4) || !within(doubled, 0, 2) || !within(tricks, 0, 13)) {
            return Integer.MIN_VALUE;
        }
        int times = 1 << doubled;
        int sum = 0;
        if (tricks < level + 6) {
            for (int k = 1; k <= level + 6 - tricks; k++) {
                if (doubled == 0) {
                    sum += vulnerable ? 100 : 50;
                } else if (vulnerable) {
                    sum += (k == 1 ? 200 : 300) * times / 2;
                } else {
                    sum += (k == 1 ? 100 : k <= 3 ? 200 : 300) * times / 2;
                }
            }
            return -sum;
        }
        for (int k = 1; k <= level; k++) {
            sum += (strain < 2 ? 20 : strain == 4 && k == 1 ? 40 : 30) * times;
        }
        sum += sum < 100 ? 50 : vulnerable ? 500 : 300;
        sum += level == 7 ? (vulnerable ? 1500 : 1000) : level == 6 ? (vulnerable ? 750 : 500) : 0;
        sum += doubled == 2 ? 100 : doubled == 1 ? 50 : 0;
        for (int k = level + 7; k <= tricks; k++) {
            int plain = strain < 2 ? 20 : 30;
            sum += doubled == 0 ? plain : (doubled == 1 ? 100 : 200) * (vulnerable ? 2 : 1);
        }
        return sum;
    }

    int steps(int a, int b) {
        int[] bounds = {20, 50, 90, 130, 170, 220, 270, 320, 370, 430, 500, 600, 750, 900, 1100, 1300, 1500,
            1750, 2000, 2250, 2500, 3000, 3500, 4000};
        long d = (long) a - b;
        int n = (int) Arrays.stream(bounds).filter(x -> x <= Math.abs(d)).count();
        return n * Long.signum(d);
    }

    int points(int i, int side) {
        Outcome o = outcome(i);
        if (o == null || !within(side, 0, 1)) {
            return NONE;
        }
        int all = 20 * (board(o.board, 2) - 1);
        if (o.parts != null) {
            return all * o.parts[side] / 100;
        }
        int north = 0;
        for (Outcome p : outcomes) {
            if (p != o && p.board == o.board) {
                north += p.parts != null ? 10 : 10 + 10 * Integer.compare(o.score, p.score);
            }
        }
        return side == 0 ? north : all - north;
    }

    int total(int pair) {
        int sum = NONE;
        for (int i = 0; i < outcomes.size(); i++) {
            for (int side = 0; side < 2; side++) {
                if (outcomes.get(i).pairs[side] == pair) {
                    sum = Math.max(sum, 0) + points(i, side);
                }
            }
        }
        return sum;
    }

    int top(int pair) {
        int sum = NONE;
        for (Outcome o : outcomes) {
            if (o.pairs[0] == pair || o.pairs[1] == pair) {
                sum = Math.max(sum, 0) + 20 * (board(o.board, 2) - 1);
            }
        }
        return sum;
    }

    int place(int pair) {
        if (top(pair) == NONE) {
            return NONE;
        }
        int place = 1;
        for (int p = 0; p < 40; p++) {
            if (top(p) != NONE) {
                long[] a = top(p) == 0 ? new long[] {1, 2} : new long[] {total(p), top(p)};
                long[] b = top(pair) == 0 ? new long[] {1, 2} : new long[] {total(pair), top(pair)};
                place += a[0] * b[1] > b[0] * a[1] ? 1 : 0;
            }
        }
        return place;
    }

    int plan(int t, int r, int k, int what) {
        if (!within(t, 3, 10) || !within(k, 0, t - 1) || !within(r, 0, t % 2 == 0 ? t - 2 : t - 1)) {
            return NONE;
        }
        int east = k - r - (t % 2 == 0 && 2 * r >= t ? 1 : 0);
        while (east < 0) {
            east += t;
        }
        int set = k + r;
        while (set >= t) {
            set -= t;
        }
        return what == 0 ? k : what == 1 ? t + east : what == 2 ? set : NONE;
    }

    int write(int i) {
        Outcome o = outcome(i);
        if (o == null) {
            return NONE;
        }
        if (o.level == 0) {
            written = "pass";
        } else {
            int more = o.tricks - 6 - o.level;
            written = o.level + "CDHSN".substring(o.strain, o.strain + 1) + "XX".substring(0, o.doubled) + " "
                    + "NESW".charAt(o.declarer) + " " + (more == 0 ? "=" : more > 0 ? "+" + more : "" + more);
        }
        return written.length();
    }

    int out(int i) {
        return i >= 0 && i < written.length() ? written.charAt(i) : NONE;
    }

    int count(int what) {
        if (what == 0) {
            return deals.size();
        }
        if (what == 1) {
            return outcomes.size();
        }
        if (what == 2) {
            return (int) Arrays.stream(seatings).filter(s -> s != null).count();
        }
        if (what == 3) {
            Set<Integer> pairs = new HashSet<>();
            for (Outcome o : outcomes) {
                pairs.add(o.pairs[0]);
                pairs.add(o.pairs[1]);
            }
            return pairs.size();
        }
        return NONE;
    }
}
