/**
 * A bridge club: boards are dealt, tables play them after an auction, contracts are scored,
 * and results are set against each other.
 *
 * <p>Sets of cards are held as bits of a long (bit c is card c), so that an object stays small
 * and looking for the best play of an ending makes no objects at all.
 */
public final class BridgeClub {

    public static final int NONE = -1;

    private static final int NO_SCORE = -2147483648;
    private static final int MOST_BOARDS = 36;
    private static final int TABLES = 10;
    private static final int PAIRS = 40;
    private static final int MOST_RESULTS = 200;
    /** Tables that were begun before the last result allowed came may still bring theirs. */
    private static final int RESULT_ROOM = MOST_RESULTS + TABLES;
    private static final int SEATS = 4;
    private static final int CARDS = 52;
    private static final int ALL_TRICKS = 13;
    private static final int ENDING_TRICKS = 4;
    private static final int POINTS_EACH = 20;

    private final Board[] boards = new Board[MOST_BOARDS];
    private int boardCount;
    private final Table[] tables = new Table[TABLES];
    private final Result[] results = new Result[RESULT_ROOM];
    private int resultCount;
    private final int[] pack = new int[CARDS];
    private final Ending ending = new Ending();
    private final StringBuilder text = new StringBuilder();

    public BridgeClub() {
    }

    // ---- boards

    public int deal(int seed) {
        if (boardCount >= boards.length) {
            return NONE;
        }
        shuffle(seed);
        Board made = new Board(boardCount + 1);
        for (int k = 0; k < pack.length; k++) {
            made.give(k % SEATS, pack[k]);
        }
        boards[boardCount] = made;
        boardCount++;
        return boardCount;
    }

    public boolean swap(int board, int a, int b) {
        Board of = boardNumbered(board);
        if (of == null || of.wasBegun() || !Cards.exists(a) || !Cards.exists(b)) {
            return false;
        }
        int seatOfA = of.holder(a);
        int seatOfB = of.holder(b);
        of.give(seatOfB, a);
        of.give(seatOfA, b);
        return true;
    }

    public int hand(int board, int card) {
        Board of = boardNumbered(board);
        return of == null || !Cards.exists(card) ? NONE : of.holder(card);
    }

    public int board(int board, int what) {
        Board of = boardNumbered(board);
        if (of == null) {
            return NONE;
        }
        switch (what) {
            case 0:
                return of.dealer();
            case 1:
                return of.vulnerability();
            case 2:
                return of.resultsSoFar();
            case 3:
                return tableWithBoard(board);
            default:
                return NONE;
        }
    }

    // ---- tables

    public boolean begin(int table, int board, int north, int east) {
        Board of = boardNumbered(board);
        if (of == null || table < 0 || table >= tables.length || !isPair(north) || !isPair(east)) {
            return false;
        }
        if (north == east || resultCount >= MOST_RESULTS) {
            return false;
        }
        if (busyTable(table) != null || tableWithBoard(board) != NONE) {
            return false;
        }
        if (!isFreeFor(board, north) || !isFreeFor(board, east)) {
            return false;
        }
        Table at = tables[table];
        if (at == null) {
            at = new Table();
            tables[table] = at;
        }
        at.start(of, north, east);
        return true;
    }

    public int call(int table, int call) {
        Table at = busyTable(table);
        if (at == null || !at.admitsCall(call)) {
            return NONE;
        }
        at.addCall(call);
        if (!at.auctionIsOver()) {
            return 0;
        }
        if (at.hasContract()) {
            return 1;
        }
        finish(at, 0);
        return 2;
    }

    public int play(int table, int card) {
        Table at = busyTable(table);
        if (at == null || !at.admitsCard(card)) {
            return NONE;
        }
        at.addCard(card);
        if (at.cardsInTrick() != 0) {
            return 0;
        }
        if (at.tricksLeft() > 0) {
            return 1;
        }
        finish(at, 0);
        return 2;
    }

    public boolean claim(int table, int n) {
        Table at = endingTable(table);
        if (at == null || ending.most(at) != n) {
            return false;
        }
        finish(at, n);
        return true;
    }

    public boolean back(int table) {
        Table at = busyTable(table);
        return at != null && at.dropLatest();
    }

    public boolean leave(int table) {
        Table at = busyTable(table);
        if (at == null) {
            return false;
        }
        at.stop();
        return true;
    }

    public int table(int table, int what) {
        Table at = busyTable(table);
        if (at != null) {
            return at.tell(what);
        }
        boolean isIdle = table >= 0 && table < TABLES;
        return isIdle && what == 3 ? 0 : NONE;
    }

    public int called(int table, int i) {
        Table at = busyTable(table);
        return at == null ? NONE : at.callAt(i);
    }

    public int played(int table, int i) {
        Table at = busyTable(table);
        return at == null ? NONE : at.cardAt(i);
    }

    public boolean allowed(int table, int x) {
        Table at = busyTable(table);
        return at != null && (at.admitsCall(x) || at.admitsCard(x));
    }

    public boolean sees(int table, int seat, int card) {
        Table at = busyTable(table);
        if (at == null || seat < 0 || seat >= SEATS || !Cards.exists(card)) {
            return false;
        }
        return at.isSeenBy(seat, card);
    }

    public boolean lacks(int table, int seat, int suit) {
        Table at = busyTable(table);
        return at != null && seat >= 0 && seat < SEATS && at.hasShownOut(seat, suit);
    }

    public int best(int table) {
        Table at = endingTable(table);
        return at == null ? NONE : ending.most(at);
    }

    public int bestCard(int table) {
        Table at = endingTable(table);
        return at == null ? NONE : ending.leastBestCard(at);
    }

    // ---- results

    public int result(int i, int what) {
        Result of = resultAt(i);
        if (of == null) {
            return what == 8 ? NO_SCORE : NONE;
        }
        return of.tell(what);
    }

    public boolean adjust(int i, int north, int east) {
        Result of = resultAt(i);
        if (of == null || !isPart(north) || !isPart(east)) {
            return false;
        }
        of.setParts(north, east);
        return true;
    }

    public int score(int level, int strain, int doubled, boolean vulnerable, int tricks) {
        boolean isContract = level >= 1 && level <= 7 && strain >= 0 && strain <= 4;
        if (!isContract || doubled < 0 || doubled > 2 || tricks < 0 || tricks > ALL_TRICKS) {
            return NO_SCORE;
        }
        return Scoring.ofContract(level, strain, doubled, vulnerable, tricks);
    }

    public int steps(int a, int b) {
        return Scoring.stepsOf((long) a - (long) b);
    }

    public int points(int i, int side) {
        Result of = resultAt(i);
        return of == null || side < 0 || side > 1 ? NONE : pointsOf(of, i, side);
    }

    public int total(int pair) {
        return hasResult(pair) ? pointsOfPair(pair) : NONE;
    }

    public int top(int pair) {
        return hasResult(pair) ? mostOfPair(pair) : NONE;
    }

    public int place(int pair) {
        if (!hasResult(pair)) {
            return NONE;
        }
        long own = partOver(pair);
        long under = partUnder(pair);
        int better = 0;
        for (int other = 0; other < PAIRS; other++) {
            if (hasResult(other) && partOver(other) * under > own * partUnder(other)) {
                better++;
            }
        }
        return better + 1;
    }

    public int plan(int t, int r, int k, int what) {
        if (t < 3 || t > TABLES || k < 0 || k >= t) {
            return NONE;
        }
        boolean isEven = t % 2 == 0;
        int rounds = isEven ? t - 1 : t;
        if (r < 0 || r >= rounds) {
            return NONE;
        }
        int skip = isEven && r >= t / 2 ? 1 : 0;
        switch (what) {
            case 0:
                return k;
            case 1:
                return t + Math.floorMod(k - r - skip, t);
            case 2:
                return (k + r) % t;
            default:
                return NONE;
        }
    }

    public int write(int i) {
        Result of = resultAt(i);
        if (of == null) {
            return NONE;
        }
        text.setLength(0);
        of.appendTo(text);
        return text.length();
    }

    public int out(int i) {
        return i >= 0 && i < text.length() ? text.charAt(i) : NONE;
    }

    public int count(int what) {
        switch (what) {
            case 0:
                return boardCount;
            case 1:
                return resultCount;
            case 2:
                return busyTables();
            case 3:
                return pairsWithResult();
            default:
                return NONE;
        }
    }

    // ---- what the methods above share

    private void shuffle(int seed) {
        for (int i = 0; i < pack.length; i++) {
            pack[i] = i;
        }
        int state = seed;
        for (int i = pack.length - 1; i >= 1; i--) {
            state = state * 1103515245 + 12345;
            int j = (state >>> 16) % (i + 1);
            int kept = pack[i];
            pack[i] = pack[j];
            pack[j] = kept;
        }
    }

    private Board boardNumbered(int number) {
        return number >= 1 && number <= boardCount && number <= boards.length ? boards[number - 1] : null;
    }

    private Result resultAt(int i) {
        return i >= 0 && i < resultCount && i < results.length ? results[i] : null;
    }

    /** The table if something is played there, else null. */
    private Table busyTable(int table) {
        if (table < 0 || table >= tables.length) {
            return null;
        }
        Table at = tables[table];
        return at != null && at.isBusy() ? at : null;
    }

    /** The table if it is in play with so few tricks left that the ending can be told, else null. */
    private Table endingTable(int table) {
        Table at = busyTable(table);
        return at != null && at.isInPlay() && at.tricksLeft() <= ENDING_TRICKS ? at : null;
    }

    private int tableWithBoard(int number) {
        for (int i = 0; i < tables.length; i++) {
            Table at = busyTable(i);
            if (at != null && at.boardNumber() == number) {
                return i;
            }
        }
        return NONE;
    }

    private int busyTables() {
        int n = 0;
        for (int i = 0; i < tables.length; i++) {
            if (busyTable(i) != null) {
                n++;
            }
        }
        return n;
    }

    private static boolean isPair(int pair) {
        return pair >= 0 && pair < PAIRS;
    }

    private static boolean isPart(int part) {
        return part >= 0 && part <= 100;
    }

    /** Whether a pair neither plays now nor has a result of the board. */
    private boolean isFreeFor(int number, int pair) {
        for (int i = 0; i < tables.length; i++) {
            Table at = busyTable(i);
            if (at != null && at.sideOf(pair) != NONE) {
                return false;
            }
        }
        for (int i = 0; i < resultCount; i++) {
            Result of = resultAt(i);
            if (of != null && of.boardNumber() == number && of.sideOf(pair) != NONE) {
                return false;
            }
        }
        return true;
    }

    /** What is played at the table becomes a result; claimed are the tricks the declarer gets on top. */
    private void finish(Table at, int claimed) {
        Board of = boardNumbered(at.boardNumber());
        if (of != null && resultCount < results.length) {
            results[resultCount] = at.toResult(claimed);
            resultCount++;
            of.addResult();
        }
        at.stop();
    }

    /** What the sides of a result share: 20 for each other result of its board. */
    private int mostOf(Result of) {
        Board on = boardNumbered(of.boardNumber());
        return on == null ? 0 : POINTS_EACH * (on.resultsSoFar() - 1);
    }

    private int pointsOf(Result of, int i, int side) {
        int most = mostOf(of);
        if (of.isAdjusted()) {
            return of.partOf(side) * most / 100;
        }
        int north = 0;
        for (int j = 0; j < resultCount; j++) {
            Result other = resultAt(j);
            if (j != i && other != null && other.boardNumber() == of.boardNumber()) {
                north += pointsAgainst(of, other);
            }
        }
        return side == 0 ? north : most - north;
    }

    private static int pointsAgainst(Result of, Result other) {
        if (other.isAdjusted() || other.scoreOfNorth() == of.scoreOfNorth()) {
            return POINTS_EACH / 2;
        }
        return other.scoreOfNorth() < of.scoreOfNorth() ? POINTS_EACH : 0;
    }

    private boolean hasResult(int pair) {
        for (int i = 0; i < resultCount; i++) {
            Result of = resultAt(i);
            if (of != null && of.sideOf(pair) != NONE) {
                return true;
            }
        }
        return false;
    }

    private int pairsWithResult() {
        int n = 0;
        for (int pair = 0; pair < PAIRS; pair++) {
            if (hasResult(pair)) {
                n++;
            }
        }
        return n;
    }

    private int pointsOfPair(int pair) {
        int sum = 0;
        for (int i = 0; i < resultCount; i++) {
            Result of = resultAt(i);
            int side = of == null ? NONE : of.sideOf(pair);
            if (of != null && side != NONE) {
                sum += pointsOf(of, i, side);
            }
        }
        return sum;
    }

    private int mostOfPair(int pair) {
        int sum = 0;
        for (int i = 0; i < resultCount; i++) {
            Result of = resultAt(i);
            if (of != null && of.sideOf(pair) != NONE) {
                sum += mostOf(of);
            }
        }
        return sum;
    }

    /** A pair's part is the fraction of these two: one half if it could have had nothing. */
    private long partOver(int pair) {
        return mostOfPair(pair) == 0 ? 1 : pointsOfPair(pair);
    }

    private long partUnder(int pair) {
        int most = mostOfPair(pair);
        return most == 0 ? 2 : most;
    }

    /** What holds of cards wherever they are. */
    private static final class Cards {
        private static final int RANKS = 13;
        private static final long ONE_SUIT = 0x1FFFL;

        static boolean exists(int card) {
            return card >= 0 && card < CARDS;
        }

        static int suitOf(int card) {
            return card / RANKS;
        }

        static long bitOf(int card) {
            return 1L << card;
        }

        static boolean has(long set, int card) {
            return (set & bitOf(card)) != 0;
        }

        static long onlySuit(long set, int suit) {
            return set & (ONE_SUIT << (RANKS * suit));
        }

        /** What may be played of a hand: the suit that was led (NONE: no card was), if there is one. */
        static long choices(long held, int led) {
            long following = led == NONE ? 0 : onlySuit(held, led);
            return following != 0 ? following : held;
        }

        /** Whether a card that comes later wins over the one that was winning. */
        static boolean beats(int card, int winning, int trump) {
            int suit = card / RANKS;
            return suit == winning / RANKS ? card > winning : suit == trump;
        }
    }

    /** A deal, with what its number tells of it. */
    private static final class Board {
        private final int number;
        private final long[] hands = new long[SEATS];
        private boolean begun;
        private int resultsOfIt;

        Board(int number) {
            this.number = number;
        }

        void give(int seat, int card) {
            if (seat < 0 || seat >= hands.length) {
                return;
            }
            for (int i = 0; i < hands.length; i++) {
                hands[i] &= ~Cards.bitOf(card);
            }
            hands[seat] |= Cards.bitOf(card);
        }

        long cardsOf(int seat) {
            return seat >= 0 && seat < hands.length ? hands[seat] : 0;
        }

        int holder(int card) {
            for (int seat = 0; seat < hands.length; seat++) {
                if (Cards.has(hands[seat], card)) {
                    return seat;
                }
            }
            return NONE;
        }

        int number() {
            return number;
        }

        int dealer() {
            return (number - 1) % SEATS;
        }

        int vulnerability() {
            int k = (number - 1) % 16;
            return (k + k / 4) % 4;
        }

        boolean isVulnerable(int side) {
            return (vulnerability() & (side == 0 ? 1 : 2)) != 0;
        }

        void markBegun() {
            begun = true;
        }

        boolean wasBegun() {
            return begun;
        }

        void addResult() {
            resultsOfIt++;
        }

        int resultsSoFar() {
            return resultsOfIt;
        }
    }

    /** The calls of one board, and what they come to. */
    private static final class Auction {
        private static final int PASS = 0;
        private static final int DOUBLE = 1;
        private static final int FIRST_BID = 3;
        private static final int LAST_BID = 37;
        private static final int STRAINS = 5;
        /** Three passes, then each bid with two passes, a double, two, a redouble, two; a pass to end it. */
        private static final int LONGEST = 3 + 35 * 9 + 1;

        private final int[] calls = new int[LONGEST];
        private int size;
        private int dealer;

        void open(int seat) {
            dealer = seat;
            size = 0;
        }

        int length() {
            return size;
        }

        int callAt(int i) {
            return i >= 0 && i < size && i < calls.length ? calls[i] : NONE;
        }

        int turn() {
            return (dealer + size) % SEATS;
        }

        boolean admits(int call) {
            if (call < PASS || call > LAST_BID || size >= calls.length) {
                return false;
            }
            if (call == PASS) {
                return true;
            }
            if (call >= FIRST_BID) {
                return call > latestBid();
            }
            int i = latestFrom(DOUBLE);
            boolean isOtherSides = (size - i) % 2 == 1;
            int latest = callAt(i);
            return isOtherSides && (call == DOUBLE ? latest >= FIRST_BID : latest == DOUBLE);
        }

        void add(int call) {
            if (size < calls.length) {
                calls[size] = call;
                size++;
            }
        }

        boolean dropLatest() {
            if (size == 0) {
                return false;
            }
            size--;
            return true;
        }

        /** Three passes end it behind any fourth call: behind a pass these are four at its begin. */
        boolean isOver() {
            return size >= 4 && latestFrom(DOUBLE) < size - 3;
        }

        /** Where the latest call is whose number is at least this; NONE. */
        private int latestFrom(int least) {
            int start = size <= calls.length ? size - 1 : NONE;
            for (int i = start; i >= 0; i--) {
                if (calls[i] >= least) {
                    return i;
                }
            }
            return NONE;
        }

        int latestBid() {
            return callAt(latestFrom(FIRST_BID));
        }

        int level() {
            int bid = latestBid();
            return bid == NONE ? NONE : (bid - FIRST_BID) / STRAINS + 1;
        }

        int strain() {
            int bid = latestBid();
            return bid == NONE ? NONE : (bid - FIRST_BID) % STRAINS;
        }

        /** 0, 1 doubled or 2 redoubled, of the latest bid; NONE without one. */
        int doubling() {
            int latest = callAt(latestFrom(DOUBLE));
            return latest >= FIRST_BID ? 0 : latest;
        }

        int declarer() {
            int last = latestFrom(FIRST_BID);
            if (last == NONE) {
                return NONE;
            }
            int strain = strain();
            for (int i = last % 2; i <= last; i += 2) {
                int bid = callAt(i) - FIRST_BID;
                if (bid >= 0 && bid % STRAINS == strain) {
                    return (dealer + i) % SEATS;
                }
            }
            return NONE;
        }
    }

    /** The cards that were played, and who led to each trick: all else follows from these. */
    private static final class Play {
        private final int[] cards = new int[CARDS];
        private final int[] leaders = new int[ALL_TRICKS + 1];
        private int size;
        private long gone;
        private int declarer;
        private int trump;

        void open(int seat, int strain) {
            size = 0;
            gone = 0;
            declarer = seat;
            trump = strain;
            leaders[0] = (seat + 1) % SEATS;
        }

        int length() {
            return size;
        }

        int cardAt(int i) {
            return i >= 0 && i < size && i < cards.length ? cards[i] : NONE;
        }

        int declarer() {
            return declarer;
        }

        int dummy() {
            return (declarer + 2) % SEATS;
        }

        int trump() {
            return trump;
        }

        long gone() {
            return gone;
        }

        int inTrick() {
            return size % SEATS;
        }

        int tricksDone() {
            return size / SEATS;
        }

        int leaderOf(int trick) {
            return trick >= 0 && trick < leaders.length ? leaders[trick] : 0;
        }

        int turn() {
            return (leaderOf(tricksDone()) + inTrick()) % SEATS;
        }

        /** The suit that was led to the trick under way; NONE before that. */
        int led() {
            return inTrick() == 0 ? NONE : Cards.suitOf(cardAt(size - inTrick()));
        }

        void add(int card) {
            if (size >= cards.length) {
                return;
            }
            cards[size] = card;
            size++;
            gone |= Cards.bitOf(card);
            int done = tricksDone();
            if (inTrick() == 0 && done >= 1 && done < leaders.length) {
                leaders[done] = winnerFrom(size - SEATS, SEATS, leaderOf(done - 1));
            }
        }

        boolean dropLatest() {
            if (size == 0) {
                return false;
            }
            gone &= ~Cards.bitOf(cardAt(size - 1));
            size--;
            return true;
        }

        /** The card that wins among n cards from a place on; NONE if there are none. */
        int winningCard(int from, int n) {
            int winning = cardAt(from);
            for (int i = 1; i < n; i++) {
                int card = cardAt(from + i);
                if (Cards.beats(card, winning, trump)) {
                    winning = card;
                }
            }
            return n > 0 ? winning : NONE;
        }

        /** Who wins among n cards from a place on, the first being the leader's. */
        int winnerFrom(int from, int n, int leader) {
            int winning = winningCard(from, n);
            for (int i = 0; i < n; i++) {
                if (cardAt(from + i) == winning) {
                    return (leader + i) % SEATS;
                }
            }
            return leader;
        }

        int tricksOf(int side) {
            int n = 0;
            for (int trick = 1; trick <= tricksDone(); trick++) {
                if (leaderOf(trick) % 2 == side) {
                    n++;
                }
            }
            return n;
        }

        boolean hasShownOut(int seat, int suit) {
            for (int from = 0; from < size; from += SEATS) {
                int place = (seat - leaderOf(from / SEATS) + SEATS) % SEATS;
                int card = cardAt(from + place);
                if (card != NONE && Cards.suitOf(cardAt(from)) == suit && Cards.suitOf(card) != suit) {
                    return true;
                }
            }
            return false;
        }
    }

    /** One table: the board that is played there (null: nothing is), by whom, and how far it is. */
    private static final class Table {
        private Board on;
        private int north;
        private int east;
        private final Auction auction = new Auction();
        private final Play tricks = new Play();

        void start(Board of, int pairNorth, int pairEast) {
            on = of;
            of.markBegun();
            north = pairNorth;
            east = pairEast;
            auction.open(of.dealer());
            tricks.open(0, 0);
        }

        void stop() {
            on = null;
        }

        boolean isBusy() {
            return on != null;
        }

        int boardNumber() {
            return on == null ? NONE : on.number();
        }

        int sideOf(int pair) {
            return pair == north ? 0 : pair == east ? 1 : NONE;
        }

        boolean auctionIsOver() {
            return auction.isOver();
        }

        boolean hasContract() {
            return auction.latestBid() != NONE;
        }

        boolean isInPlay() {
            return on != null && auction.isOver();
        }

        boolean admitsCall(int call) {
            return on != null && !auction.isOver() && auction.admits(call);
        }

        void addCall(int call) {
            auction.add(call);
            if (auction.isOver()) {
                tricks.open(auction.declarer(), auction.strain());
            }
        }

        /** The cards that the seat whose turn it is may play. */
        long choices() {
            return Cards.choices(heldBy(tricks.turn()), tricks.led());
        }

        boolean admitsCard(int card) {
            return isInPlay() && Cards.exists(card) && Cards.has(choices(), card);
        }

        void addCard(int card) {
            tricks.add(card);
        }

        boolean dropLatest() {
            return tricks.dropLatest() || auction.dropLatest();
        }

        int callAt(int i) {
            return auction.callAt(i);
        }

        int cardAt(int i) {
            return tricks.cardAt(i);
        }

        int cardsInTrick() {
            return tricks.inTrick();
        }

        int tricksLeft() {
            return ALL_TRICKS - tricks.tricksDone();
        }

        /** The cards that a seat still holds. */
        long heldBy(int seat) {
            return on == null ? 0 : on.cardsOf(seat) & ~tricks.gone();
        }

        Play tricks() {
            return tricks;
        }

        boolean isSeenBy(int seat, int card) {
            int holder = on == null ? NONE : on.holder(card);
            if (holder == seat || Cards.has(tricks.gone(), card)) {
                return true;
            }
            return tricks.length() > 0 && holder == tricks.dummy();
        }

        boolean hasShownOut(int seat, int suit) {
            return tricks.hasShownOut(seat, suit);
        }

        int tell(int what) {
            boolean inPlay = isInPlay();
            switch (what) {
                case 0:
                    return boardNumber();
                case 1:
                    return north;
                case 2:
                    return east;
                case 3:
                    return inPlay ? 2 : 1;
                case 4:
                    return inPlay ? tricks.turn() : auction.turn();
                case 5:
                    return auction.level();
                case 6:
                    return auction.strain();
                case 7:
                    return inPlay ? tricks.declarer() : NONE;
                case 8:
                    return auction.doubling();
                case 9:
                    return tricks.tricksOf(0);
                case 10:
                    return tricks.tricksOf(1);
                case 11:
                    return tricks.inTrick();
                case 12:
                    return auction.length();
                case 13:
                    return inPlay ? tricks.leaderOf(tricks.tricksDone()) : NONE;
                default:
                    return NONE;
            }
        }

        Result toResult(int claimed) {
            Result made = new Result(boardNumber(), north, east);
            if (on != null && hasContract()) {
                int declarer = tricks.declarer();
                made.setContract(auction.level(), auction.strain(), auction.doubling());
                made.setOutcome(declarer, tricks.tricksOf(declarer % 2) + claimed,
                        on.isVulnerable(declarer % 2));
            }
            return made;
        }
    }

    /** What came of a board at a table: passed out until a contract and its outcome are set. */
    private static final class Result {
        private static final String STRAIN_SIGNS = "CDHSN";
        private static final String SEAT_SIGNS = "NESW";

        private final int board;
        private final int north;
        private final int east;
        private int level;
        private int strain = NONE;
        private int declarer = NONE;
        private int doubled = NONE;
        private int tricks = NONE;
        private int score;
        private boolean adjusted;
        private int partNorth;
        private int partEast;

        Result(int board, int north, int east) {
            this.board = board;
            this.north = north;
            this.east = east;
        }

        void setContract(int itsLevel, int itsStrain, int itsDoubling) {
            level = itsLevel;
            strain = itsStrain;
            doubled = itsDoubling;
        }

        void setOutcome(int seat, int won, boolean vulnerable) {
            declarer = seat;
            tricks = won;
            int own = Scoring.ofContract(level, strain, doubled, vulnerable, tricks);
            score = seat % 2 == 0 ? own : -own;
        }

        void setParts(int ofNorth, int ofEast) {
            adjusted = true;
            partNorth = ofNorth;
            partEast = ofEast;
        }

        int boardNumber() {
            return board;
        }

        int sideOf(int pair) {
            return pair == north ? 0 : pair == east ? 1 : NONE;
        }

        int scoreOfNorth() {
            return score;
        }

        boolean isAdjusted() {
            return adjusted;
        }

        int partOf(int side) {
            return side == 0 ? partNorth : partEast;
        }

        int tell(int what) {
            switch (what) {
                case 0:
                    return board;
                case 1:
                    return north;
                case 2:
                    return east;
                case 3:
                    return level;
                case 4:
                    return strain;
                case 5:
                    return declarer;
                case 6:
                    return doubled;
                case 7:
                    return tricks;
                case 8:
                    return score;
                case 9:
                    return adjusted ? 1 : 0;
                default:
                    return NONE;
            }
        }

        void appendTo(StringBuilder text) {
            if (level == 0) {
                text.append("pass");
                return;
            }
            text.append(level);
            text.append(signOf(STRAIN_SIGNS, strain));
            for (int i = 0; i < doubled; i++) {
                text.append('X');
            }
            text.append(' ');
            text.append(signOf(SEAT_SIGNS, declarer));
            text.append(' ');
            int more = tricks - (level + 6);
            text.append(more == 0 ? '=' : more > 0 ? '+' : '-');
            if (more != 0) {
                text.append(Math.abs(more));
            }
        }

        private static char signOf(String signs, int i) {
            return i >= 0 && i < signs.length() ? signs.charAt(i) : ' ';
        }
    }

    /** What contracts and differences are worth. */
    private static final class Scoring {
        private static final int NO_TRUMPS = 4;
        private static final int DOUBLED = 1;
        private static final int[] STEP_BOUNDS = {
            20, 50, 90, 130, 170, 220, 270, 320, 370, 430, 500, 600, 750, 900, 1100, 1300, 1500,
            1750, 2000, 2250, 2500, 3000, 3500, 4000,
        };

        static int ofContract(int level, int strain, int doubled, boolean vulnerable, int tricks) {
            int more = tricks - (level + 6);
            if (more < 0) {
                return -lost(-more, doubled, vulnerable);
            }
            int score = trickScore(level, strain, doubled);
            score += score >= 100 ? (vulnerable ? 500 : 300) : 50;
            score += slam(level, vulnerable);
            score += 50 * doubled;
            return score + more * overtrick(strain, doubled, vulnerable);
        }

        private static int perTrick(int strain) {
            return strain <= 1 ? 20 : 30;
        }

        private static int trickScore(int level, int strain, int doubled) {
            int plain = level * perTrick(strain) + (strain == NO_TRUMPS ? 10 : 0);
            return doubled == 0 ? plain : plain * 2 * doubled;
        }

        private static int slam(int level, boolean vulnerable) {
            if (level < 6) {
                return 0;
            }
            return (level == 6 ? 500 : 1000) * (vulnerable ? 3 : 2) / 2;
        }

        private static int overtrick(int strain, int doubled, boolean vulnerable) {
            if (doubled == 0) {
                return perTrick(strain);
            }
            return 100 * doubled * (vulnerable ? 2 : 1);
        }

        private static int lost(int missing, int doubled, boolean vulnerable) {
            if (doubled == 0) {
                return missing * (vulnerable ? 100 : 50);
            }
            int once = vulnerable ? 300 * missing - 100 : lostDoubled(missing);
            return doubled == DOUBLED ? once : 2 * once;
        }

        /** Not vulnerable: 100, then 200 for the second and the third, then 300 each. */
        private static int lostDoubled(int missing) {
            return missing <= 3 ? 200 * missing - 100 : 300 * missing - 400;
        }

        static int stepsOf(long difference) {
            long size = difference < 0 ? -difference : difference;
            int steps = 0;
            for (int i = 0; i < STEP_BOUNDS.length; i++) {
                if (size >= STEP_BOUNDS[i]) {
                    steps++;
                }
            }
            return difference < 0 ? -steps : steps;
        }
    }

    /**
     * The last tricks of a board with all cards seen. It only ever asks whether the declarer's side
     * wins at least so many tricks: a yes or no is cut off far sooner than a number.
     */
    private static final class Ending {
        private static final int MOST_CARDS = ENDING_TRICKS * SEATS;

        private final long[] hands = new long[SEATS];
        private int trump;
        private int side;
        private int left;
        private int turn;
        private int led;
        private int high;
        private int winner;

        private void load(Table at) {
            Play tricks = at.tricks();
            for (int seat = 0; seat < hands.length; seat++) {
                hands[seat] = at.heldBy(seat);
            }
            trump = tricks.trump();
            side = tricks.declarer() % 2;
            left = CARDS - tricks.length();
            turn = tricks.turn();
            led = tricks.led();
            int from = tricks.length() - tricks.inTrick();
            high = tricks.winningCard(from, tricks.inTrick());
            winner = tricks.winnerFrom(from, tricks.inTrick(), tricks.leaderOf(tricks.tricksDone()));
        }

        /** How many of the tricks left the declarer's side wins. */
        int most(Table at) {
            load(at);
            int need = at.tricksLeft();
            for (; need > 0; need--) {
                if (wins(turn, led, high, winner, need, left)) {
                    break;
                }
            }
            return need;
        }

        int leastBestCard(Table at) {
            int value = most(at);
            boolean isDeclarers = turn % 2 == side;
            long choices = at.choices();
            for (int card = 0; card < CARDS; card++) {
                if (!Cards.has(choices, card)) {
                    continue;
                }
                // The declarer must still reach the value, the others must still hold it there.
                int need = isDeclarers ? value : value + 1;
                if (winsWith(card, turn, led, high, winner, need, left) == isDeclarers) {
                    return card;
                }
            }
            return NONE;
        }

        /** Whether the declarer's side wins at least need of the tricks that the left cards make. */
        private boolean wins(int seat, int suit, int top, int by, int need, int cards) {
            if (need <= 0) {
                return true;
            }
            if (cards > MOST_CARDS || need > (cards + SEATS - 1) / SEATS) {
                return false;
            }
            if (cards == SEATS) {
                return winsLast(seat);
            }
            boolean isDeclarers = seat % 2 == side;
            long others = othersThan(seat) | (top == NONE ? 0 : Cards.bitOf(top));
            long rest = seat >= 0 && seat < hands.length ? Cards.choices(hands[seat], suit) : 0;
            int before = NONE;
            for (int i = 0; i < ENDING_TRICKS && rest != 0; i++) {
                long bit = rest & -rest;
                rest ^= bit;
                int card = Long.bitCount(bit - 1);
                boolean isNew = before == NONE || !areEqual(before, card, others);
                before = card;
                if (isNew && winsWith(card, seat, suit, top, by, need, cards) == isDeclarers) {
                    return isDeclarers;
                }
            }
            return !isDeclarers;
        }

        /** The same, once a seat has played a card. */
        private boolean winsWith(int card, int seat, int suit, int top, int by, int need, int cards) {
            if (seat < 0 || seat >= hands.length) {
                return false;
            }
            boolean takes = top == NONE || Cards.beats(card, top, trump);
            int ahead = takes ? seat : by;
            hands[seat] ^= Cards.bitOf(card);
            boolean answer;
            if (cards % SEATS == 1) {
                int won = ahead % 2 == side ? 1 : 0;
                answer = wins(ahead, NONE, NONE, NONE, need - won, cards - 1);
            } else {
                int asked = suit == NONE ? Cards.suitOf(card) : suit;
                answer = wins((seat + 1) % SEATS, asked, takes ? card : top, ahead, need, cards - 1);
            }
            hands[seat] ^= Cards.bitOf(card);
            return answer;
        }

        /** Whether the declarer's side wins the last trick, where nobody has a choice. */
        private boolean winsLast(int leader) {
            int top = NONE;
            int by = leader;
            for (int i = 0; i < SEATS; i++) {
                int seat = (leader + i) % SEATS;
                long only = seat >= 0 && seat < hands.length ? hands[seat] : 0;
                int card = Long.bitCount(only - 1);
                if (top == NONE || Cards.beats(card, top, trump)) {
                    top = card;
                    by = seat;
                }
            }
            return by % 2 == side;
        }

        private long othersThan(int seat) {
            long all = 0;
            for (int i = 0; i < hands.length; i++) {
                if (i != seat) {
                    all |= hands[i];
                }
            }
            return all;
        }

        /** Whether two cards of one hand, the lower first, have none that matters between them. */
        private static boolean areEqual(int lower, int upper, long others) {
            long between = Cards.bitOf(upper) - Cards.bitOf(lower);
            return Cards.suitOf(lower) == Cards.suitOf(upper) && (others & between) == 0;
        }
    }
}
