import java.util.ArrayDeque;
import java.util.ArrayList;
import java.util.Arrays;
import java.util.Deque;
import java.util.List;
import java.util.Map;
import java.util.TreeMap;

/**
 * The document once more, written by other means than the program: cube coordinates for the camps,
 * flooding for distances, whole chains kept as lists, copies of the state for undo, and the
 * Hungarian method for the ways. Slow and plain; the program is compared with it.
 */
final class PlainCourt {
    static final int NONE = -1;
    private static final int[][] DIRECTIONS = {{0, 2}, {1, 1}, {1, -1}, {0, -2}, {-1, -1}, {-1, 1}};

    private static final class State {
        int[] owner = new int[121];
        int[] madeBy = new int[6];
        List<Integer> finished = new ArrayList<>();
        List<Integer> out = new ArrayList<>();
        int turn = NONE;

        State copy() {
            State c = new State();
            c.owner = owner.clone();
            c.madeBy = madeBy.clone();
            c.finished = new ArrayList<>(finished);
            c.out = new ArrayList<>(out);
            c.turn = turn;
            return c;
        }
    }

    private static final List<int[]> CELLS = allCells();
    private static final int[][] NUMBER = numbers();
    private static final int[][] DISTANCE = distances();

    private State now = new State();
    private Deque<State> before = new ArrayDeque<>();
    private List<Integer> players = new ArrayList<>();
    private int fill = 10;
    private int patience = 0;

    PlainCourt() {
        Arrays.fill(now.owner, NONE);
    }

    private static List<int[]> allCells() {
        List<int[]> cells = new ArrayList<>();
        for (int row = 0; row <= 16; row++) {
            int r = Math.min(row, 16 - row);
            int left = r <= 3 ? 12 - r : r - 4;
            for (int column = left; column <= 24 - left; column += 2) {
                cells.add(new int[] {row, column});
            }
        }
        return cells;
    }

    private static int[][] numbers() {
        int[][] number = new int[17][25];
        for (int[] row : number) {
            Arrays.fill(row, NONE);
        }
        for (int cell = 0; cell < CELLS.size(); cell++) {
            number[CELLS.get(cell)[0]][CELLS.get(cell)[1]] = cell;
        }
        return number;
    }

    private static int next(int cell, int[] direction) {
        int row = CELLS.get(cell)[0] + direction[0];
        int column = CELLS.get(cell)[1] + direction[1];
        return row < 0 || row > 16 || column < 0 || column > 24 ? NONE : NUMBER[row][column];
    }

    private static int[][] distances() {
        int[][] distance = new int[121][121];
        for (int from = 0; from < 121; from++) {
            Arrays.fill(distance[from], NONE);
            distance[from][from] = 0;
            Deque<Integer> open = new ArrayDeque<>(List.of(from));
            while (!open.isEmpty()) {
                int cell = open.remove();
                for (int[] direction : DIRECTIONS) {
                    int to = next(cell, direction);
                    if (to != NONE && distance[from][to] == NONE) {
                        distance[from][to] = distance[from][cell] + 1;
                        open.add(to);
                    }
                }
            }
        }
        return distance;
    }

    void begin(int set) {
        List<Integer> chosen = new ArrayList<>();
        int rest = set;
        for (int camp = 0; camp < 6; camp++) {
            if ((set & 1 << camp) != 0) {
                chosen.add(camp);
                rest -= 1 << camp;
            }
        }
        if (rest != 0 || chosen.size() < 2) {
            throw new IllegalArgumentException();
        }
        players = chosen;
        before.clear();
        now = new State();
        for (int cell = 0; cell < 121; cell++) {
            now.owner[cell] = chosen.contains(campOf(cell)) ? campOf(cell) : NONE;
        }
        now.turn = chosen.get(0);
    }

    int setFill(int marbles) {
        if (marbles < 1 || marbles > 10) {
            throw new IllegalArgumentException();
        }
        int old = fill;
        fill = marbles;
        return old;
    }

    int setPatience(int moves) {
        if (moves < 0 || moves > 100) {
            throw new IllegalArgumentException();
        }
        int old = patience;
        patience = moves;
        return old;
    }

    int move(int from, int to) {
        check(from);
        check(to);
        if (now.turn == NONE || before.size() >= 300) {
            throw new IllegalStateException();
        }
        List<Integer> chain = chains(from).get(to);
        if (chain == null) {
            throw new IllegalArgumentException();
        }
        before.push(now.copy());
        now.owner[to] = now.turn;
        now.owner[from] = NONE;
        now.madeBy[now.turn]++;
        for (int player : players) {
            if (!now.out.contains(player) && !now.finished.contains(player) && fills(player)) {
                now.finished.add(player);
            }
        }
        advance();
        return chain.size();
    }

    private boolean fills(int player) {
        int own = 0;
        int all = 0;
        for (int cell = 0; cell < 121; cell++) {
            if (campOf(cell) == (player + 3) % 6) {
                all += now.owner[cell] != NONE ? 1 : 0;
                own += now.owner[cell] == player ? 1 : 0;
            }
        }
        return all == 10 && own >= fill;
    }

    private void advance() {
        List<Integer> order = new ArrayList<>();
        for (int player : players) {
            if (player > now.turn) {
                order.add(player);
            }
        }
        for (int player : players) {
            if (player <= now.turn) {
                order.add(player);
            }
        }
        for (int player : order) {
            if (now.finished.contains(player) || now.out.contains(player)) {
                continue;
            }
            boolean atHome = false;
            for (int cell = 0; cell < 121; cell++) {
                atHome |= campOf(cell) == player && now.owner[cell] == player;
            }
            if (patience != 0 && now.madeBy[player] >= patience && atHome) {
                now.out.add(player);
                continue;
            }
            now.turn = player;
            return;
        }
        now.turn = NONE;
    }

    void pass() {
        if (now.turn == NONE || moves() > 0 || before.size() >= 300) {
            throw new IllegalStateException();
        }
        before.push(now.copy());
        now.madeBy[now.turn]++;
        advance();
    }

    int undo() {
        if (before.isEmpty()) {
            throw new IllegalStateException();
        }
        now = before.pop();
        return before.size();
    }

    int at(int cell) {
        check(cell);
        return now.owner[cell];
    }

    int cellAt(int row, int column) {
        return row < 0 || row > 16 || column < 0 || column > 24 ? NONE : NUMBER[row][column];
    }

    int campOf(int cell) {
        check(cell);
        int down = CELLS.get(cell)[0] - 8;
        int right = CELLS.get(cell)[1] - 12;
        int rising = (right - down) / 2;
        int falling = (right + down) / 2;
        return down < -4 ? 0 : rising > 4 ? 1 : falling > 4 ? 2
                : down > 4 ? 3 : rising < -4 ? 4 : falling < -4 ? 5 : NONE;
    }

    int distance(int from, int to) {
        check(from);
        check(to);
        return DISTANCE[from][to];
    }

    int turn() {
        return now.turn;
    }

    int made() {
        return before.size();
    }

    int ends(int from) {
        check(from);
        return chains(from).size();
    }

    int endAt(int from, int k) {
        check(from);
        List<Integer> ends = new ArrayList<>(chains(from).keySet());
        if (k < 0 || k >= ends.size()) {
            throw new IndexOutOfBoundsException();
        }
        return ends.get(k);
    }

    int moves() {
        int sum = 0;
        for (int cell = 0; cell < 121; cell++) {
            sum += chains(cell).size();
        }
        return sum;
    }

    int chainAt(int from, int to, int hop) {
        check(from);
        check(to);
        if (hop < 0) {
            throw new IndexOutOfBoundsException();
        }
        List<Integer> chain = chains(from).get(to);
        return chain == null || hop >= chain.size() ? NONE : chain.get(hop);
    }

    int hops(int from, int to) {
        check(from);
        check(to);
        List<Integer> chain = chains(from).get(to);
        return chain == null ? NONE : chain.size();
    }

    int finished(int place) {
        if (place < 0 || place > 5) {
            throw new IndexOutOfBoundsException();
        }
        return place < now.finished.size() ? now.finished.get(place) : NONE;
    }

    boolean isOut(int player) {
        if (player < 0 || player > 5) {
            throw new IndexOutOfBoundsException();
        }
        return now.out.contains(player);
    }

    int way(int player) {
        if (player < 0 || player > 5) {
            throw new IndexOutOfBoundsException();
        }
        return players.contains(player) ? leastPairing(player) : NONE;
    }

    int bestFrom() {
        return best()[0];
    }

    int bestTo() {
        return best()[1];
    }

    private int[] best() {
        int[] best = {NONE, NONE};
        int least = Integer.MAX_VALUE;
        for (int from = 0; from < 121; from++) {
            for (int to : chains(from).keySet()) {
                now.owner[from] = NONE;
                now.owner[to] = now.turn;
                int sum = leastPairing(now.turn);
                now.owner[to] = NONE;
                now.owner[from] = now.turn;
                if (sum < least) {
                    least = sum;
                    best = new int[] {from, to};
                }
            }
        }
        return best;
    }

    private void check(int cell) {
        if (cell < 0 || cell > 120) {
            throw new IndexOutOfBoundsException();
        }
    }

    /** By end: the cells behind the hops of the first shortest chain; an empty list for a step. */
    Map<Integer, List<Integer>> chains(int from) {
        Map<Integer, List<Integer>> found = new TreeMap<>();
        if (now.turn == NONE || now.owner[from] != now.turn) {
            return found;
        }
        now.owner[from] = NONE;
        Map<Integer, List<Integer>> round = Map.of(from, List.of());
        while (!round.isEmpty()) {
            Map<Integer, List<Integer>> following = new TreeMap<>();
            for (Map.Entry<Integer, List<Integer>> entry : round.entrySet()) {
                for (int behind : hopsFrom(entry.getKey())) {
                    List<Integer> chain = new ArrayList<>(entry.getValue());
                    chain.add(behind);
                    if (behind != from && !found.containsKey(behind)) {
                        following.merge(behind, chain, PlainCourt::lower);
                    }
                }
            }
            found.putAll(following);
            round = following;
        }
        for (int[] direction : DIRECTIONS) {
            int to = next(from, direction);
            if (to != NONE && now.owner[to] == NONE) {
                found.put(to, List.of());
            }
        }
        now.owner[from] = now.turn;
        int goal = (now.turn + 3) % 6;
        found.keySet().removeIf(to -> campOf(to) != NONE && campOf(to) != now.turn && campOf(to) != goal);
        found.keySet().removeIf(to -> campOf(from) == goal && campOf(to) != goal);
        return found;
    }

    private List<Integer> hopsFrom(int cell) {
        List<Integer> behinds = new ArrayList<>();
        for (int[] direction : DIRECTIONS) {
            int over = next(cell, direction);
            if (over != NONE && now.owner[over] != NONE) {
                int behind = next(over, direction);
                if (behind != NONE && now.owner[behind] == NONE) {
                    behinds.add(behind);
                }
            }
        }
        return behinds;
    }

    private static List<Integer> lower(List<Integer> a, List<Integer> b) {
        for (int i = 0; i < a.size(); i++) {
            int order = a.get(i).compareTo(b.get(i));
            if (order != 0) {
                return order < 0 ? a : b;
            }
        }
        return a;
    }

    private int leastPairing(int player) {
        int[][] cost = new int[11][11];
        int row = 0;
        for (int cell = 0; cell < 121; cell++) {
            if (now.owner[cell] == player) {
                row++;
                int column = 0;
                for (int goal = 0; goal < 121; goal++) {
                    if (campOf(goal) == (player + 3) % 6) {
                        column++;
                        cost[row][column] = DISTANCE[cell][goal];
                    }
                }
            }
        }
        return hungarian(cost, 10);
    }

    /** The well-known form with potentials u and v; rows and columns count from 1. */
    private static int hungarian(int[][] cost, int n) {
        int[] u = new int[n + 1];
        int[] v = new int[n + 1];
        int[] rowOf = new int[n + 1];
        for (int row = 1; row <= n; row++) {
            int[] came = new int[n + 1];
            int[] slack = new int[n + 1];
            Arrays.fill(slack, 1_000_000);
            boolean[] used = new boolean[n + 1];
            rowOf[0] = row;
            int column = 0;
            while (rowOf[column] != 0) {
                used[column] = true;
                int delta = 1_000_000;
                int chosen = 0;
                for (int j = 1; j <= n; j++) {
                    if (!used[j]) {
                        int reduced = cost[rowOf[column]][j] - u[rowOf[column]] - v[j];
                        if (reduced < slack[j]) {
                            slack[j] = reduced;
                            came[j] = column;
                        }
                        if (slack[j] < delta) {
                            delta = slack[j];
                            chosen = j;
                        }
                    }
                }
                for (int j = 0; j <= n; j++) {
                    if (used[j]) {
                        u[rowOf[j]] += delta;
                        v[j] -= delta;
                    } else {
                        slack[j] -= delta;
                    }
                }
                column = chosen;
            }
            while (column != 0) {
                rowOf[column] = rowOf[came[column]];
                column = came[column];
            }
        }
        int sum = 0;
        for (int j = 1; j <= n; j++) {
            sum += cost[rowOf[j]][j];
        }
        return sum;
    }
}
