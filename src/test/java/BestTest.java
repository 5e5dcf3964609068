import java.util.ArrayList;
import java.util.List;

/** Promises 22 and 23: bestFrom and bestTo. */
final class BestTest {
    public static void main(String[] args) {
        known("at the beginning", Games.at(9, new int[0]), 3, 14);
        known("of player 3", Games.at(9, new int[] {6, 14}), 115, 102);
        known("of player 1", Games.at(18, new int[0]), 20, 18);
        known("with two chains", Games.at(9, Games.TWO_CHAINS), 0, 16);
        known("with a marble to bring on", Games.at(9, Games.OUT_AND_IN), 59, 4);
        known("without a move", Games.at(9, Games.SHUT_IN), -1, -1);
        known("in no game", new HopperCourt(), -1, -1);
        gameOver();
        leastWayThenLowestCells();
        queriesChangeNothing();
        lateInTheGame();
        bestMovesLeadToTheEnd();
        Check.end();
    }

    private static void known(String name, HopperCourt court, int from, int to) {
        Check.due(name + ": bestFrom()", court.bestFrom(), from);
        Check.due(name + ": bestTo()", court.bestTo(), to);
    }

    private static void gameOver() {
        HopperCourt court = Games.over();
        known("when the game is over", court, -1, -1);
    }

    private static void leastWayThenLowestCells() {
        for (int set : new int[] {3, 9, 21, 45, 63}) {
            List<Integer> pairs = new ArrayList<>();
            for (int made = 0; made < 50; made++) {
                int[] best = tryAll(set, pairs);
                HopperCourt court = replay(set, pairs);
                known("begin(" + set + "), after " + made, court, best[0], best[1]);
                pairs.add(best[0]);
                pairs.add(best[1]);
            }
        }
    }

    /** Tries every move, each with a new object, and looks at the way behind it. */
    private static int[] tryAll(int set, List<Integer> pairs) {
        HopperCourt here = replay(set, pairs);
        int player = here.turn();
        int least = Integer.MAX_VALUE;
        int[] best = {-1, -1};
        for (int from = 0; from < 121; from++) {
            int ends = here.ends(from);
            for (int k = 0; k < ends; k++) {
                int to = here.endAt(from, k);
                HopperCourt there = replay(set, pairs);
                there.move(from, to);
                if (there.way(player) < least) {
                    least = there.way(player);
                    best = new int[] {from, to};
                }
            }
        }
        return best;
    }

    private static HopperCourt replay(int set, List<Integer> pairs) {
        return Games.at(set, pairs.stream().mapToInt(Integer::intValue).toArray());
    }

    private static void queriesChangeNothing() {
        HopperCourt court = Games.at(9, Games.OUT_AND_IN);
        String before = Games.picture(court);
        court.bestFrom();
        court.bestTo();
        Check.due("the game after bestFrom and bestTo", Games.picture(court), before);
    }

    /** Between two full camps most moves bring nothing on, and the lowest cells decide. */
    private static void lateInTheGame() {
        PlainCourt plain = new PlainCourt();
        plain.begin(9);
        List<Integer> pairs = new ArrayList<>();
        for (int made = 0; made < 160; made++) {
            int from = plain.bestFrom();
            int to = plain.bestTo();
            if (made >= 100) {
                known("begin(9), after " + made, replay(9, pairs), from, to);
            }
            plain.move(from, to);
            pairs.add(from);
            pairs.add(to);
        }
    }

    private static void bestMovesLeadToTheEnd() {
        HopperCourt court = Games.at(11, Games.EXCHANGED);
        court.setFill(1);
        Games.play(court, 20, 18);
        int made = 0;
        while (court.way(1) > 0 && made < 100) {
            court.move(court.bestFrom(), court.bestTo());
            made++;
        }
        Check.due("way(1) at its end", court.way(1), 0);
        known("behind the end", court, -1, -1);
    }
}
