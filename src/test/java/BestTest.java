import java.util.ArrayList;
import java.util.List;

/** Promises 22 and 23: bestFrom and bestTo. */
final class BestTest {
    /** Many moves of player 3 bring it on by two: from 113 to 93, from 114 to 92, and others. */
    private static final int[] MANY_BEST = {8, 16, 116, 105, 16, 28};

    public static void main(String[] args) {
        known("at the beginning", Games.at(9, new int[0]), 3, 14);
        known("of player 3", Games.at(9, new int[] {6, 14}), 115, 102);
        known("of player 1", Games.at(18, new int[0]), 20, 18);
        known("with two chains", Games.at(9, Games.TWO_CHAINS), 0, 16);
        known("with a marble to bring on", Games.at(9, Games.OUT_AND_IN), 59, 4);
        known("without a move", Games.at(9, Games.SHUT_IN), -1, -1);
        known("in no game", new HopperCourt(), -1, -1);
        gameOver();
        aLeastWayGoesAheadOfLowerCells();
        ofSeveralTheLowerFirstCell();
        theLowerFirstCellGoesAheadOfTheLowerEnd();
        ofSeveralFromOneCellTheLowerEnd();
        theOnlyMove();
        theOnlyMoveMayLeadBack();
        leastWayThenLowestCells();
        queriesChangeNothing();
        lateInTheGame();
        bestMovesLeadToTheEnd();
        Check.end();
    }

    private static void known(String name, HopperCourt court, int from, int to) {
        Check.due(name + ": bestFrom()", court.bestFrom(), from);
        Check.due(name + ": bestTo()", court.bestTo(), to);
    }

    private static void gameOver() {
        HopperCourt court = Games.over();
        known("when the game is over", court, -1, -1);
    }

    private static void leastWayThenLowestCells() {
        for (int set : new int[] {3, 9, 21, 45, 63}) {
            List<Integer> pairs = new ArrayList<>();
            for (int made = 0; made < 50; made++) {
                int[] best = tryAll(set, pairs);
                HopperCourt court = replay(set, pairs);
                known("begin(" + set + "), after " + made, court, best[0], best[1]);
                pairs.add(best[0]);
                pairs.add(best[1]);
            }
        }
    }

    /** Tries every move, each with a new object, and looks at the way behind it. */
    private static int[] tryAll(int set, List<Integer> pairs) {
        HopperCourt here = replay(set, pairs);
        int player = here.turn();
        int least = Integer.MAX_VALUE;
        int[] best = {-1, -1};
        for (int from = 0; from < 121; from++) {
            int ends = here.ends(from);
            for (int k = 0; k < ends; k++) {
                int to = here.endAt(from, k);
                HopperCourt there = replay(set, pairs);
                there.move(from, to);
                if (there.way(player) < least) {
                    least = there.way(player);
                    best = new int[] {from, to};
                }
            }
        }
        return best;
    }

    private static HopperCourt replay(int set, List<Integer> pairs) {
        return Games.at(set, pairs.stream().mapToInt(Integer::intValue).toArray());
    }

    private static void queriesChangeNothing() {
        HopperCourt court = Games.at(9, Games.OUT_AND_IN);
        String before = Games.picture(court);
        court.bestFrom();
        court.bestTo();
        Check.due("the game after bestFrom and bestTo", Games.picture(court), before);
    }

    /** Between two full camps most moves bring nothing on, and the lowest cells decide. */
    private static void lateInTheGame() {
        PlainCourt plain = new PlainCourt();
        plain.begin(9);
        List<Integer> pairs = new ArrayList<>();
        for (int made = 0; made < 160; made++) {
            int from = plain.bestFrom();
            int to = plain.bestTo();
            if (made >= 100) {
                known("begin(9), after " + made, replay(9, pairs), from, to);
            }
            plain.move(from, to);
            pairs.add(from);
            pairs.add(to);
        }
    }

    private static void bestMovesLeadToTheEnd() {
        HopperCourt court = Games.at(11, Games.EXCHANGED);
        court.setFill(1);
        Games.play(court, 20, 18);
        int made = 0;
        while (court.way(1) > 0 && made < 100) {
            court.move(court.bestFrom(), court.bestTo());
            made++;
        }
        Check.due("way(1) at its end", court.way(1), 0);
        known("behind the end", court, -1, -1);
    }

    private static int wayBehind(int set, int[] game, int from, int to) {
        HopperCourt court = Games.at(set, game);
        int player = court.turn();
        court.move(from, to);
        return court.way(player);
    }

    private static void aLeastWayGoesAheadOfLowerCells() {
        Check.due("way(3) behind 105 to 92", wayBehind(9, MANY_BEST, 105, 92) > 116, true);
        Check.due("way(3) behind 113 to 93", wayBehind(9, MANY_BEST, 113, 93), 116);
        known("not from 105", Games.at(9, MANY_BEST), 113, 93);
        int[] farther = {6, 14, 115, 102};
        Check.due("way(0) behind 1 to 6", wayBehind(9, farther, 1, 6), 117);
        Check.due("way(0) behind 1 to 26", wayBehind(9, farther, 1, 26), 115);
        known("not to 6", Games.at(9, farther), 1, 26);
    }

    /** Every hop over the first row of the camp is worth two steps; 3, 4 and 5 have two such hops each. */
    private static void ofSeveralTheLowerFirstCell() {
        int[] none = new int[0];
        for (int[] move : new int[][] {{3, 14}, {3, 16}, {4, 15}, {4, 17}, {5, 16}, {5, 18}}) {
            Check.due("way(0) behind " + move[0] + " to " + move[1],
                    wayBehind(9, none, move[0], move[1]), 118);
        }
        HopperCourt court = Games.at(9, none);
        Check.due("bestFrom() of 3, 4 and 5", court.bestFrom(), 3);
        HopperCourt other = Games.at(9, new int[] {6, 14});
        for (int[] move : new int[][] {{115, 102}, {115, 104}, {116, 103}, {117, 106}}) {
            Check.due("way(3) behind " + move[0] + " to " + move[1],
                    wayBehind(9, new int[] {6, 14}, move[0], move[1]), 118);
        }
        Check.due("bestFrom() of 115, 116 and 117", other.bestFrom(), 115);
    }

    private static void theLowerFirstCellGoesAheadOfTheLowerEnd() {
        Check.due("way(3) behind 113 to 93", wayBehind(9, MANY_BEST, 113, 93), 116);
        Check.due("way(3) behind 114 to 92", wayBehind(9, MANY_BEST, 114, 92), 116);
        known("from 113, though 92 is lower than 93", Games.at(9, MANY_BEST), 113, 93);
    }

    private static void ofSeveralFromOneCellTheLowerEnd() {
        HopperCourt court = Games.at(9, new int[0]);
        Check.due("bestTo() of 14 and 16", court.bestTo(), 14);
        HopperCourt other = Games.at(9, new int[] {6, 14});
        Check.due("bestTo() of 102 and 104", other.bestTo(), 102);
    }

    /** The last marble of player 0 stands on 1, and all cells before it are taken. */
    private static void theOnlyMoveMayLeadBack() {
        HopperCourt court = Games.at(9, Games.SHUT_IN);
        court.pass();
        Games.play(court, 1, 4, 0, 1, 5, 8, 1, 0, 28, 15, 0, 1, 15, 6);
        Check.due("moves()", court.moves(), 1);
        Check.due("way(0)", court.way(0), 15);
        known("one move left, back to 0", court, 1, 0);
        Games.play(court, 1, 0);
        Check.due("way(0) behind it", court.way(0), 16);
    }

    private static void theOnlyMove() {
        HopperCourt top = Games.at(9, Games.SHUT_IN);
        top.pass();
        Games.play(top, 5, 4);
        known("one move left, from 0", top, 0, 5);
        HopperCourt foot = Games.at(9, Games.shutInBelow());
        known("no move of 3", foot, -1, -1);
        foot.pass();
        Games.play(foot, 115, 116);
        known("one move left, from 120", foot, 120, 115);
    }
}
