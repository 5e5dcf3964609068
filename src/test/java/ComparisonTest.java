import java.util.ArrayList;
import java.util.List;

/**
 * All promises: long runs of calls, the program beside PlainCourt, each answer and exception compared.
 * The numbers that choose the calls come from a fixed rule, so that every run is the same again.
 */
final class ComparisonTest {
    private static final int MOST_CALLS = 512;
    private static final int RUNS = 260;

    private static int overs = 0;
    private static int finishes = 0;
    private static int outs = 0;
    private static int fullLogs = 0;
    private static int longChains = 0;

    private long seed;
    private final String name;
    private final HopperCourt court = new HopperCourt();
    private final PlainCourt plain = new PlainCourt();
    private int calls = 0;

    private ComparisonTest(int run) {
        seed = run * 7919L + 13;
        name = "run " + run;
    }

    public static void main(String[] args) {
        for (int run = 0; run < RUNS; run++) {
            new ComparisonTest(run).play(run);
        }
        System.out.println("games over " + overs + ", finishes " + finishes + ", outs " + outs
                + ", full logs " + fullLogs + ", long chains " + longChains);
        Check.due("the runs came to ends, finishes, outs, 300 moves and chains of four hops",
                overs > 0 && finishes > 0 && outs > 0 && fullLogs > 0 && longChains > 0, true);
        Check.end();
    }

    private int any(int below) {
        seed = seed * 6364136223846793005L + 1442695040888963407L;
        return (int) ((seed >>> 33) % below);
    }

    private void same(String call, Check.Call one, Check.Call other) {
        if (calls >= MOST_CALLS) {
            return;
        }
        calls++;
        Check.due(name + " call " + calls + ": " + call, Check.outcome(one), Check.outcome(other));
    }

    /** Few queries let the games go far; many look into each position. */
    private void play(int run) {
        int queriesOfTen = new int[] {1, 3, 6, 9}[run % 4];
        boolean aims = run % 3 != 0;
        start(run);
        while (calls < MOST_CALLS) {
            if (any(10) < queriesOfTen) {
                query();
            } else if (any(60) == 0) {
                change();
            } else {
                step(aims && any(8) != 0);
            }
        }
        overs += plain.made() > 0 && plain.turn() == PlainCourt.NONE ? 1 : 0;
        finishes += plain.finished(0) != PlainCourt.NONE ? 1 : 0;
        fullLogs += plain.made() == 300 ? 1 : 0;
        for (int player = 0; player < 6; player++) {
            outs += plain.isOut(player) ? 1 : 0;
        }
    }

    private void start(int run) {
        if (any(5) == 0) {
            query();
        }
        fill(1 + any(10));
        if (run % 5 == 4) {
            patience(1 + any(60));
        }
        begin(run % 2 == 0 ? new int[] {9, 18, 36}[any(3)] : any(64));
        if (plain.turn() == PlainCourt.NONE) {
            begin(63);
        }
    }

    private void begin(int set) {
        same("begin(" + set + ")", () -> {
            court.begin(set);
            return 0;
        }, () -> {
            plain.begin(set);
            return 0;
        });
    }

    private void fill(int marbles) {
        same("setFill(" + marbles + ")", () -> court.setFill(marbles), () -> plain.setFill(marbles));
    }

    private void patience(int moves) {
        same("setPatience(" + moves + ")",
                () -> court.setPatience(moves), () -> plain.setPatience(moves));
    }

    private void change() {
        switch (any(12)) {
            case 0 -> begin(any(66) - 1);
            case 1, 2, 3 -> fill(any(13) - 1);
            case 4, 5 -> patience(any(4) == 0 ? any(130) - 10 : any(2) * 40);
            default -> {
                for (int times = any(6); times >= 0; times--) {
                    same("undo()", court::undo, plain::undo);
                }
            }
        }
    }

    private void step(boolean aims) {
        int from = any(125) - 2;
        int to = any(125) - 2;
        List<int[]> all = legal();
        if (aims && !all.isEmpty()) {
            from = plain.bestFrom();
            to = plain.bestTo();
        } else if (!all.isEmpty() && any(20) != 0) {
            int[] chosen = all.get(any(all.size()));
            from = chosen[0];
            to = chosen[1];
        }
        if (all.isEmpty() || any(40) == 0) {
            same("pass()", () -> {
                court.pass();
                return 0;
            }, () -> {
                plain.pass();
                return 0;
            });
        }
        int f = from;
        int t = to;
        same("move(" + f + ", " + t + ")", () -> court.move(f, t), () -> plain.move(f, t));
    }

    private List<int[]> legal() {
        List<int[]> all = new ArrayList<>();
        for (int from = 0; from < 121; from++) {
            for (int to : plain.chains(from).keySet()) {
                all.add(new int[] {from, to});
            }
        }
        return all;
    }

    /** Mostly the cells of a move, as most pairs of cells are none. */
    private void query() {
        List<int[]> all = legal();
        int[] pair = {any(125) - 2, any(125) - 2};
        if (!all.isEmpty() && any(4) != 0) {
            pair = all.get(any(all.size()));
        }
        int from = pair[0];
        int to = pair[1];
        int small = any(9) - 1;
        int row = any(21) - 2;
        int column = any(30) - 2;
        String cells = "(" + from + ", " + to;
        switch (any(16)) {
            case 0 -> same("at(" + from + ")", () -> court.at(from), () -> plain.at(from));
            case 1 -> same("cellAt(" + row + ", " + column + ")",
                    () -> court.cellAt(row, column), () -> plain.cellAt(row, column));
            case 2 -> same("campOf(" + to + ")", () -> court.campOf(to), () -> plain.campOf(to));
            case 3 -> same("distance" + cells + ")",
                    () -> court.distance(from, to), () -> plain.distance(from, to));
            case 4 -> same("turn()", court::turn, plain::turn);
            case 5 -> same("made()", court::made, plain::made);
            case 6 -> same("ends(" + from + ")", () -> court.ends(from), () -> plain.ends(from));
            case 7 -> same("endAt(" + from + ", " + small + ")",
                    () -> court.endAt(from, small), () -> plain.endAt(from, small));
            case 8 -> same("moves()", court::moves, plain::moves);
            case 9 -> wholeChain(from, to, small);
            case 10 -> same("hops" + cells + ")", () -> court.hops(from, to), () -> plain.hops(from, to));
            case 11 -> same("finished(" + small + ")",
                    () -> court.finished(small), () -> plain.finished(small));
            case 12 -> same("isOut(" + small + ")",
                    () -> court.isOut(small) ? 1 : 0, () -> plain.isOut(small) ? 1 : 0);
            case 13 -> same("way(" + small + ")", () -> court.way(small), () -> plain.way(small));
            case 14 -> same("bestFrom()", court::bestFrom, plain::bestFrom);
            default -> same("bestTo()", court::bestTo, plain::bestTo);
        }
    }

    private void wholeChain(int from, int to, int small) {
        int last = small;
        if (from >= 0 && from < 121 && to >= 0 && to < 121) {
            last = Math.max(small, plain.hops(from, to));
            longChains += plain.hops(from, to) >= 4 ? 1 : 0;
        }
        for (int hop = Math.min(small, 0); hop <= last; hop++) {
            int h = hop;
            same("chainAt(" + from + ", " + to + ", " + h + ")",
                    () -> court.chainAt(from, to, h), () -> plain.chainAt(from, to, h));
        }
    }
}
