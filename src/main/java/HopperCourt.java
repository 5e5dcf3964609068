/**
 * A game of hops on a star board: two to six players bring their marbles from one camp to the
 * opposite one, by single steps and by chains of hops.
 */
public final class HopperCourt {
    public static final int NONE = -1;

    private static final int CELLS = 121;
    private static final int CAMPS = 6;
    private static final int CAMP_CELLS = 10;
    private static final int ALL_CAMPS = 63;
    private static final int MOST_PATIENCE = 100;
    private static final int MOST_MOVES = 300;
    /** More than any sum of distances, and small enough that distances can be added to it. */
    private static final int NO_SUM = 1_000_000;

    private final Star star;
    private final Marbles marbles;
    private final Reach reach;
    private final Pairing pairing;
    private final Seats seats;
    private final Log log;
    private int fill;
    private int patience;

    public HopperCourt() {
        star = new Star();
        marbles = new Marbles(star);
        reach = new Reach(star, marbles);
        pairing = new Pairing(star, marbles);
        seats = new Seats(marbles);
        log = new Log();
        fill = CAMP_CELLS;
        patience = 0;
    }

    // ---- the game

    public void begin(int players) throws IllegalArgumentException {
        if (players < 0 || players > ALL_CAMPS || Integer.bitCount(players) < 2) {
            throw new IllegalArgumentException("no set of at least 2 of the camps 0 to 5");
        }
        marbles.setUp(players);
        seats.setUp(players);
        log.clear();
    }

    public int setFill(int marbles) throws IllegalArgumentException {
        if (marbles < 1 || marbles > CAMP_CELLS) {
            throw new IllegalArgumentException("marbles is not 1 to 10");
        }
        int before = fill;
        fill = marbles;
        return before;
    }

    public int setPatience(int moves) throws IllegalArgumentException {
        if (moves < 0 || moves > MOST_PATIENCE) {
            throw new IllegalArgumentException("moves is not 0 to 100");
        }
        int before = patience;
        patience = moves;
        return before;
    }

    public int move(int from, int to)
            throws IndexOutOfBoundsException, IllegalStateException, IllegalArgumentException {
        if (!isCell(from) || !isCell(to)) {
            throw new IndexOutOfBoundsException("no such cell");
        }
        if (!isOpen()) {
            throw new IllegalStateException("no game is on, or 300 moves were made");
        }
        reach.search(seats.onTurn(), from);
        int fewest = reach.hopsTo(to);
        if (fewest == NONE) {
            throw new IllegalArgumentException("no move");
        }
        log.add(from, to, seats);
        marbles.carry(from, to);
        seats.countMove();
        seats.placeFinishers(fill);
        seats.goOn(patience);
        return fewest;
    }

    public void pass() throws IllegalStateException {
        if (!isOpen() || moves() > 0) {
            throw new IllegalStateException("no game is on, 300 moves were made, or there is a move");
        }
        log.add(NONE, NONE, seats);
        seats.countMove();
        seats.goOn(patience);
    }

    public int undo() throws IllegalStateException {
        if (log.size() == 0) {
            throw new IllegalStateException("no move was made");
        }
        log.takeBack(marbles, seats);
        return log.size();
    }

    // ---- the board

    public int at(int cell) throws IndexOutOfBoundsException {
        if (!isCell(cell)) {
            throw new IndexOutOfBoundsException("no such cell");
        }
        return marbles.owner(cell);
    }

    public int cellAt(int row, int column) {
        return Star.cellIn(row, column);
    }

    public int campOf(int cell) throws IndexOutOfBoundsException {
        if (!isCell(cell)) {
            throw new IndexOutOfBoundsException("no such cell");
        }
        return star.camp(cell);
    }

    public int distance(int from, int to) throws IndexOutOfBoundsException {
        if (!isCell(from) || !isCell(to)) {
            throw new IndexOutOfBoundsException("no such cell");
        }
        return star.steps(from, to);
    }

    // ---- moves

    public int turn() {
        return seats.onTurn();
    }

    public int made() {
        return log.size();
    }

    public int ends(int from) throws IndexOutOfBoundsException {
        if (!isCell(from)) {
            throw new IndexOutOfBoundsException("no such cell");
        }
        reach.search(seats.onTurn(), from);
        return reach.countEnds();
    }

    public int endAt(int from, int k) throws IndexOutOfBoundsException {
        if (!isCell(from)) {
            throw new IndexOutOfBoundsException("no such cell");
        }
        reach.search(seats.onTurn(), from);
        int end = reach.end(k);
        if (end == NONE) {
            throw new IndexOutOfBoundsException("so many ends are not there");
        }
        return end;
    }

    public int moves() {
        int player = seats.onTurn();
        int count = 0;
        for (int from = 0; from < CELLS; from++) {
            if (player != NONE && marbles.owner(from) == player) {
                reach.search(player, from);
                count += reach.countEnds();
            }
        }
        return count;
    }

    public int chainAt(int from, int to, int hop) throws IndexOutOfBoundsException {
        if (!isCell(from) || !isCell(to) || hop < 0) {
            throw new IndexOutOfBoundsException("no such cell, or hop is below 0");
        }
        reach.search(seats.onTurn(), from);
        if (hop >= reach.hopsTo(to)) {
            return NONE;
        }
        return reach.cellBehind(from, to, hop);
    }

    public int hops(int from, int to) throws IndexOutOfBoundsException {
        if (!isCell(from) || !isCell(to)) {
            throw new IndexOutOfBoundsException("no such cell");
        }
        reach.search(seats.onTurn(), from);
        return reach.hopsTo(to);
    }

    // ---- players

    public int finished(int place) throws IndexOutOfBoundsException {
        if (!isCamp(place)) {
            throw new IndexOutOfBoundsException("place is not 0 to 5");
        }
        return seats.playerAtPlace(place);
    }

    public boolean isOut(int player) throws IndexOutOfBoundsException {
        if (!isCamp(player)) {
            throw new IndexOutOfBoundsException("no such player");
        }
        return seats.hasDroppedOut(player);
    }

    public int way(int player) throws IndexOutOfBoundsException {
        if (!isCamp(player)) {
            throw new IndexOutOfBoundsException("no such player");
        }
        return seats.plays(player) ? pairing.leastSum(player) : NONE;
    }

    public int bestFrom() {
        int best = bestMove();
        return best == NONE ? NONE : best / CELLS;
    }

    public int bestTo() {
        int best = bestMove();
        return best == NONE ? NONE : best % CELLS;
    }

    private static boolean isCell(int cell) {
        return cell >= 0 && cell < CELLS;
    }

    /** Camps, players and places all go from 0 to 5. */
    private static boolean isCamp(int camp) {
        return camp >= 0 && camp < CAMPS;
    }

    private static int goalOf(int player) {
        return (player + CAMPS / 2) % CAMPS;
    }

    private boolean isOpen() {
        return seats.onTurn() != NONE && log.size() < MOST_MOVES;
    }

    /** The best move as its first cell times CELLS, and its end; NONE if there is no move. */
    private int bestMove() {
        int player = seats.onTurn();
        if (player == NONE) {
            return NONE;
        }
        pairing.weighAllButOne(player);
        int best = NONE;
        int least = NO_SUM;
        for (int marble = 0; marble < CAMP_CELLS; marble++) {
            int from = pairing.marbleCell(marble);
            reach.search(player, from);
            for (int to = 0; to < CELLS; to++) {
                if (reach.hopsTo(to) == NONE) {
                    continue;
                }
                int sum = pairing.sumWith(marble, to);
                if (sum < least) {
                    least = sum;
                    best = from * CELLS + to;
                }
            }
        }
        return best;
    }

    /** The board without its marbles. */
    private static final class Star {
        private static final int ROWS = 17;
        private static final int DIRECTIONS = 6;
        /** One entry more than there are rows, so that each row's length can be told. */
        private static final int[] FIRST_CELL = {
            0, 1, 3, 6, 10, 23, 35, 46, 56, 65, 75, 86, 98, 111, 115, 118, 120, 121
        };
        private static final int[] FIRST_COLUMN = {
            12, 11, 10, 9, 0, 1, 2, 3, 4, 3, 2, 1, 0, 9, 10, 11, 12
        };
        private static final int[] ROW_STEP = {0, 1, 1, 0, -1, -1};
        private static final int[] COLUMN_STEP = {2, 1, -1, -2, -1, 1};

        private final int[] rows = new int[CELLS];
        private final int[] columns = new int[CELLS];
        private final int[] camps = new int[CELLS];
        private final int[] nexts = new int[CELLS * DIRECTIONS];

        Star() {
            for (int row = 0; row < ROWS; row++) {
                for (int cell = FIRST_CELL[row]; cell < FIRST_CELL[row + 1]; cell++) {
                    int column = FIRST_COLUMN[row] + 2 * (cell - FIRST_CELL[row]);
                    rows[cell] = row;
                    columns[cell] = column;
                    camps[cell] = campAmong(row, column);
                    for (int d = 0; d < DIRECTIONS; d++) {
                        nexts[cell * DIRECTIONS + d] =
                                cellIn(row + ROW_STEP[d], column + COLUMN_STEP[d]);
                    }
                }
            }
        }

        static int cellIn(int row, int column) {
            if (row < 0 || row >= ROWS) {
                return NONE;
            }
            int first = FIRST_COLUMN[row];
            int length = FIRST_CELL[row + 1] - FIRST_CELL[row];
            if (column < first || column >= first + 2 * length || (column - first) % 2 != 0) {
                return NONE;
            }
            return FIRST_CELL[row] + (column - first) / 2;
        }

        private static int campAmong(int row, int column) {
            if (row <= 3) {
                return 0;
            }
            if (row >= 13) {
                return 3;
            }
            if (row <= 7) {
                return column >= 14 + row ? 1 : column <= 10 - row ? 5 : NONE;
            }
            if (row >= 9) {
                return column >= 30 - row ? 2 : column <= row - 6 ? 4 : NONE;
            }
            return NONE;
        }

        int camp(int cell) {
            return isCell(cell) ? camps[cell] : NONE;
        }

        int next(int cell, int direction) {
            if (!isCell(cell) || direction < 0 || direction >= DIRECTIONS) {
                return NONE;
            }
            return nexts[cell * DIRECTIONS + direction];
        }

        /** The bays between the camps never force a detour, so the plain measure of the grid holds. */
        int steps(int from, int to) {
            if (!isCell(from) || !isCell(to)) {
                return NONE;
            }
            int down = Math.abs(rows[from] - rows[to]);
            int across = Math.abs(columns[from] - columns[to]);
            return Math.max(down, (down + across) / 2);
        }
    }

    /** Whose marbles lie on the cells. */
    private static final class Marbles {
        private final Star star;
        private final int[] owners = new int[CELLS];

        Marbles(Star star) {
            this.star = star;
            setUp(0);
        }

        void setUp(int players) {
            for (int cell = 0; cell < CELLS; cell++) {
                int camp = star.camp(cell);
                owners[cell] = camp != NONE && (players >> camp & 1) == 1 ? camp : NONE;
            }
        }

        int owner(int cell) {
            return isCell(cell) ? owners[cell] : NONE;
        }

        boolean isEmpty(int cell) {
            return isCell(cell) && owners[cell] == NONE;
        }

        void carry(int from, int to) {
            if (isCell(from) && isCell(to)) {
                owners[to] = owners[from];
                owners[from] = NONE;
            }
        }

        /** How many cells of a camp have marbles of a player; NONE counts the empty ones. */
        int countInCamp(int camp, int player) {
            int count = 0;
            for (int cell = 0; cell < CELLS; cell++) {
                if (star.camp(cell) == camp && owners[cell] == player) {
                    count++;
                }
            }
            return count;
        }
    }

    /** Finds where one marble can go. */
    private static final class Reach {
        private final Star star;
        private final Marbles marbles;
        /** By cell: how many hops the shortest chain to that end has, 0 for a step, NONE for no end. */
        private final int[] hopsToEnd = new int[CELLS];
        /** By cell: how many hops it lies from where the latest spread began. */
        private final int[] level = new int[CELLS];
        private final int[] queue = new int[CELLS];

        Reach(Star star, Marbles marbles) {
            this.star = star;
            this.marbles = marbles;
        }

        /** Finds all ends for the marble on a cell; none if it is not a marble of the player. */
        void search(int player, int from) {
            if (player == NONE || marbles.owner(from) != player) {
                for (int to = 0; to < CELLS; to++) {
                    hopsToEnd[to] = NONE;
                }
                return;
            }
            spread(from, from);
            for (int to = 0; to < CELLS; to++) {
                boolean isEnd = level[to] > 0 && mayEnd(player, from, to);
                hopsToEnd[to] = isEnd ? level[to] : NONE;
            }
            for (int d = 0; d < Star.DIRECTIONS; d++) {
                int to = star.next(from, d);
                if (marbles.isEmpty(to) && mayEnd(player, from, to)) {
                    hopsToEnd[to] = 0;
                }
            }
        }

        int hopsTo(int to) {
            return isCell(to) ? hopsToEnd[to] : NONE;
        }

        int countEnds() {
            int count = 0;
            for (int to = 0; to < CELLS; to++) {
                if (hopsToEnd[to] != NONE) {
                    count++;
                }
            }
            return count;
        }

        int end(int k) {
            int count = 0;
            for (int to = 0; to < CELLS; to++) {
                if (hopsToEnd[to] != NONE) {
                    if (count == k) {
                        return to;
                    }
                    count++;
                }
            }
            return NONE;
        }

        /** The chain is traced by levels counted back from its end, since hops can be reversed. */
        int cellBehind(int from, int to, int hop) {
            spread(to, from);
            int cell = from;
            for (int done = 0; done <= hop && cell != NONE; done++) {
                cell = lowestNearer(cell, from);
            }
            return cell;
        }

        private int lowestNearer(int cell, int began) {
            int lowest = NONE;
            for (int d = 0; d < Star.DIRECTIONS; d++) {
                int behind = landing(cell, d, began);
                boolean isNearer = behind != NONE && level[behind] == level[cell] - 1;
                if (isNearer && (lowest == NONE || behind < lowest)) {
                    lowest = behind;
                }
            }
            return lowest;
        }

        /** Counts hops from a start over the board, the cell where the chain began being empty. */
        private void spread(int start, int began) {
            for (int cell = 0; cell < CELLS; cell++) {
                level[cell] = NONE;
            }
            if (!isCell(start)) {
                return;
            }
            level[start] = 0;
            queue[0] = start;
            int known = 1;
            for (int done = 0; done < known && done < CELLS; done++) {
                int cell = queue[done];
                for (int d = 0; d < Star.DIRECTIONS; d++) {
                    int behind = landing(cell, d, began);
                    if (behind != NONE && level[behind] == NONE && known < CELLS) {
                        level[behind] = level[cell] + 1;
                        queue[known] = behind;
                        known++;
                    }
                }
            }
        }

        private int landing(int cell, int direction, int began) {
            int over = star.next(cell, direction);
            if (over == NONE || over == began || marbles.isEmpty(over)) {
                return NONE;
            }
            int behind = star.next(over, direction);
            return behind == began || marbles.isEmpty(behind) ? behind : NONE;
        }

        private boolean mayEnd(int player, int from, int to) {
            int goal = goalOf(player);
            int camp = star.camp(to);
            if (star.camp(from) == goal) {
                return camp == goal;
            }
            return camp == NONE || camp == player || camp == goal;
        }
    }

    /** Pairs the marbles of a player with the cells of its goal at the least sum of distances. */
    private static final class Pairing {
        /** Sets of goal cells are bits, so there are two to the tenth of them. */
        private static final int SETS = 1 << CAMP_CELLS;

        private final Star star;
        private final Marbles marbles;
        private final int[] marbleCells = new int[CAMP_CELLS];
        private final int[] goalCells = new int[CAMP_CELLS];
        private final int[] steps = new int[CAMP_CELLS * CAMP_CELLS];
        /** By set: the least sum for the first marbles, as many as the set has cells. */
        private final int[] firstSums = new int[SETS];
        /** By set: the least sum for the last marbles, as many as the set has cells. */
        private final int[] lastSums = new int[SETS];
        /** By marble and goal cell: the least sum for all other marbles and all other cells. */
        private final int[] otherSums = new int[CAMP_CELLS * CAMP_CELLS];

        Pairing(Star star, Marbles marbles) {
            this.star = star;
            this.marbles = marbles;
        }

        int leastSum(int player) {
            measure(player);
            sumFirst();
            return firstSums[SETS - 1];
        }

        /** Readies sumWith: moving one marble leaves the sums of the other nine as they are. */
        void weighAllButOne(int player) {
            measure(player);
            sumFirst();
            sumLast();
            for (int i = 0; i < otherSums.length; i++) {
                otherSums[i] = NO_SUM;
            }
            for (int set = 0; set < SETS - 1; set++) {
                int marble = Integer.bitCount(set);
                for (int goal = 0; goal < CAMP_CELLS; goal++) {
                    if ((set >> goal & 1) == 0) {
                        int after = SETS - 1 - set - (1 << goal);
                        int i = marble * CAMP_CELLS + goal;
                        otherSums[i] = Math.min(otherSums[i], firstSums[set] + lastSums[after]);
                    }
                }
            }
        }

        /** The way if the marble of that index lay on a cell. */
        int sumWith(int marble, int cell) {
            int least = NO_SUM;
            if (marble < 0 || marble >= CAMP_CELLS) {
                return least;
            }
            for (int goal = 0; goal < CAMP_CELLS; goal++) {
                int others = otherSums[marble * CAMP_CELLS + goal];
                least = Math.min(least, others + star.steps(cell, goalCells[goal]));
            }
            return least;
        }

        /** The marbles have indices by rising cells. */
        int marbleCell(int marble) {
            return marble >= 0 && marble < CAMP_CELLS ? marbleCells[marble] : NONE;
        }

        private void measure(int player) {
            collect(player);
            for (int marble = 0; marble < CAMP_CELLS; marble++) {
                for (int goal = 0; goal < CAMP_CELLS; goal++) {
                    steps[marble * CAMP_CELLS + goal] =
                            star.steps(marbleCells[marble], goalCells[goal]);
                }
            }
        }

        private void collect(int player) {
            int goal = goalOf(player);
            int ownCount = 0;
            int goalCount = 0;
            for (int cell = 0; cell < CELLS; cell++) {
                if (marbles.owner(cell) == player && ownCount < CAMP_CELLS) {
                    marbleCells[ownCount] = cell;
                    ownCount++;
                }
                if (star.camp(cell) == goal && goalCount < CAMP_CELLS) {
                    goalCells[goalCount] = cell;
                    goalCount++;
                }
            }
        }

        private void sumFirst() {
            firstSums[0] = 0;
            for (int set = 1; set < SETS; set++) {
                firstSums[set] = leastWith(firstSums, set, Integer.bitCount(set) - 1);
            }
        }

        private void sumLast() {
            lastSums[0] = 0;
            for (int set = 1; set < SETS; set++) {
                lastSums[set] = leastWith(lastSums, set, CAMP_CELLS - Integer.bitCount(set));
            }
        }

        /** The least sum for a set when the marble takes one of its cells and the sums tell the rest. */
        private int leastWith(int[] sums, int set, int marble) {
            int least = NO_SUM;
            for (int goal = 0; goal < CAMP_CELLS; goal++) {
                if ((set >> goal & 1) == 1) {
                    int rest = sums[set - (1 << goal)];
                    least = Math.min(least, rest + steps[marble * CAMP_CELLS + goal]);
                }
            }
            return least;
        }
    }

    /** Who plays, is on turn, has finished and is out. */
    private static final class Seats {
        private final Marbles marbles;
        private final int[] madeBy = new int[CAMPS];
        private final int[] places = new int[CAMPS];
        private int placed;
        private int playing;
        private int out;
        private int turn;

        Seats(Marbles marbles) {
            this.marbles = marbles;
            turn = NONE;
        }

        void setUp(int players) {
            playing = players;
            out = 0;
            placed = 0;
            turn = NONE;
            for (int player = CAMPS - 1; player >= 0; player--) {
                madeBy[player] = 0;
                if (plays(player)) {
                    turn = player;
                }
            }
        }

        int onTurn() {
            return turn;
        }

        int outSet() {
            return out;
        }

        int placedCount() {
            return placed;
        }

        boolean plays(int player) {
            return isCamp(player) && (playing >> player & 1) == 1;
        }

        boolean hasDroppedOut(int player) {
            return isCamp(player) && (out >> player & 1) == 1;
        }

        int playerAtPlace(int place) {
            return place >= 0 && place < placed && place < CAMPS ? places[place] : NONE;
        }

        void countMove() {
            if (isCamp(turn)) {
                madeBy[turn]++;
            }
        }

        /** Of several who finish by one move the lower number is first, so numbers rise here. */
        void placeFinishers(int fill) {
            for (int player = 0; player < CAMPS; player++) {
                if (isStillIn(player) && fillsGoal(player, fill) && placed < CAMPS) {
                    places[placed] = player;
                    placed++;
                }
            }
        }

        /** Gives the turn to the next player; the mover itself comes last. */
        void goOn(int patience) {
            int mover = turn;
            turn = NONE;
            for (int ahead = 1; ahead <= CAMPS && turn == NONE; ahead++) {
                int player = (mover + ahead) % CAMPS;
                if (!isStillIn(player)) {
                    continue;
                }
                if (isTooLate(player, patience)) {
                    out |= 1 << player;
                } else {
                    turn = player;
                }
            }
        }

        void restore(int turnThen, int outThen, int placedThen) {
            turn = turnThen;
            out = outThen;
            placed = placedThen;
            if (isCamp(turn)) {
                madeBy[turn]--;
            }
        }

        private boolean isStillIn(int player) {
            return plays(player) && !hasDroppedOut(player) && !isPlaced(player);
        }

        private boolean isPlaced(int player) {
            for (int place = 0; place < placed && place < CAMPS; place++) {
                if (places[place] == player) {
                    return true;
                }
            }
            return false;
        }

        private boolean fillsGoal(int player, int fill) {
            int goal = goalOf(player);
            return marbles.countInCamp(goal, NONE) == 0
                    && marbles.countInCamp(goal, player) >= fill;
        }

        private boolean isTooLate(int player, int patience) {
            return patience > 0 && isCamp(player) && madeBy[player] >= patience
                    && marbles.countInCamp(player, player) > 0;
        }
    }

    /** The moves of this game, each with what the seats were before it. */
    private static final class Log {
        private final int[] froms = new int[MOST_MOVES];
        private final int[] tos = new int[MOST_MOVES];
        private final int[] turns = new int[MOST_MOVES];
        private final int[] outs = new int[MOST_MOVES];
        private final int[] placeds = new int[MOST_MOVES];
        private int size;

        int size() {
            return size;
        }

        void clear() {
            size = 0;
        }

        /** A pass has NONE for both cells. */
        void add(int from, int to, Seats seats) {
            if (size < MOST_MOVES) {
                froms[size] = from;
                tos[size] = to;
                turns[size] = seats.onTurn();
                outs[size] = seats.outSet();
                placeds[size] = seats.placedCount();
                size++;
            }
        }

        void takeBack(Marbles marbles, Seats seats) {
            if (size > 0) {
                size--;
                marbles.carry(tos[size], froms[size]);
                seats.restore(turns[size], outs[size], placeds[size]);
            }
        }
    }
}
