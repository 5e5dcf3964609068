import java.util.ArrayList;
import java.util.Arrays;
import java.util.List;

/** The paragraph "Moves" of the terms, sentence by sentence; promises 5 and 14 to 18 rest on it. */
final class HopTest {
    public static void main(String[] args) {
        aStepGoesToEachOfSixNeighbours();
        aStepNeedsAnEmptyCell();
        aHopNeedsAMarbleToGoOver();
        aHopGoesOverAMarbleWhoseEver();
        aHopGoesOverTheMarblesOfWhoHasFinished();
        aHopGoesOverTheMarblesOfWhoIsOut();
        aHopNeedsAnEmptyCellBehind();
        aHopNeedsACellBehind();
        rowsDoNotRunOn();
        aHopGoesStraight();
        aChainIsOneHopOrMore();
        aChainMustNotEndWhereItBegan();
        aMoveEndsInNoCampOfOthers();
        aMoveEndsInTheOwnCampOrTheGoal();
        aChainMayTouchACampOfOthersInBetween();
        theGoalIsNotLeft();
        theGoalMayBeLeftInBetween();
        aNeighbouringCellIsNeverTheEndOfAChain();
        Check.end();
    }

    private static String ends(HopperCourt court, int from) {
        List<Integer> ends = new ArrayList<>();
        for (int k = 0; k < court.ends(from); k++) {
            ends.add(court.endAt(from, k));
        }
        return ends.toString();
    }

    private static void ends(String name, HopperCourt court, int from, int... want) {
        Check.due(name + ": the ends of " + from, ends(court, from), Arrays.toString(want));
    }

    private static void isMove(String name, HopperCourt court, int from, int to, int hops) {
        Check.due(name + ": hops(" + from + ", " + to + ")", court.hops(from, to), hops);
        Check.due(name + ": move(" + from + ", " + to + ")",
                Check.outcome(() -> court.move(from, to)), Integer.toString(hops));
    }

    private static void isNoMove(String name, HopperCourt court, int from, int to) {
        Check.due(name + ": hops(" + from + ", " + to + ")", court.hops(from, to), -1);
        Check.due(name + ": chainAt(" + from + ", " + to + ", 0)", court.chainAt(from, to, 0), -1);
        Check.throwsArgument(name + ": move(" + from + ", " + to + ")", () -> court.move(from, to));
    }

    /** The marble of player 0 stands alone at 38, row 6, column 8. */
    private static void aStepGoesToEachOfSixNeighbours() {
        int[] alone = {6, 14, 114, 106, 14, 26, 106, 114, 26, 38, 114, 106};
        ends("alone", Games.at(9, alone), 38, 26, 27, 37, 39, 48, 49);
        for (int to : new int[] {26, 27, 37, 39, 48, 49}) {
            isMove("alone", Games.at(9, alone), 38, to, 0);
        }
    }

    private static void aStepNeedsAnEmptyCell() {
        isNoMove("an own marble there", Games.at(9, new int[0]), 6, 7);
        HopperCourt beside = Games.at(3, new int[] {9, 18});
        isNoMove("another's marble there", beside, 19, 18);
        isMove("the cell is left again", Games.at(3, new int[] {9, 18, 20, 43, 18, 9}), 19, 18, 0);
    }

    private static void aHopNeedsAMarbleToGoOver() {
        isMove("over 6", Games.at(9, new int[0]), 3, 14, 1);
        isNoMove("6 has gone", Games.at(9, new int[] {6, 14, 114, 106, 14, 26, 106, 114}), 3, 14);
    }

    private static void aHopGoesOverAMarbleWhoseEver() {
        isMove("over an own marble", Games.at(3, new int[0]), 5, 18, 1);
        isMove("over a marble of player 0", Games.at(3, new int[] {9, 18}), 19, 17, 1);
    }

    private static void aHopGoesOverTheMarblesOfWhoHasFinished() {
        HopperCourt court = Games.at(11, Games.EXCHANGED);
        court.undo();
        court.undo();
        court.setFill(1);
        Games.play(court, 17, 9, 8, 17, 54, 64, 17, 18, 64, 54, 5, 8, 54, 64);
        Check.due("finished(0)", court.finished(0), 3);
        Check.due("at(9)", court.at(9), 3);
        isMove("over 9", court, 18, 5, 1);
    }

    private static void aHopGoesOverTheMarblesOfWhoIsOut() {
        HopperCourt court = Games.oneOutAbroad();
        Check.due("isOut(0)", court.isOut(0), true);
        Check.due("at(93), where its marble stays", court.at(93), 0);
        isMove("over 93", court, 82, 105, 1);
        Check.due("at(93) after the hop", court.at(93), 0);
    }

    private static void aHopNeedsAnEmptyCellBehind() {
        isMove("18 is empty", Games.at(9, new int[] {8, 17, 114, 106}), 5, 18, 1);
        int[] taken = {8, 17, 114, 106, 17, 18, 106, 114};
        isNoMove("an own marble on 18", Games.at(9, taken), 5, 18);
        HopperCourt other = Games.at(3, new int[] {9, 18, 55, 54, 6, 14});
        isMove("17 is empty", other, 19, 17, 1);
        other = Games.at(3, new int[] {8, 17, 55, 54, 9, 18});
        isNoMove("a marble of player 0 on 17", other, 19, 17);
    }

    /** The tops of camps and the rims beside them: there is a marble to go over, and nothing behind it. */
    private static void aHopNeedsACellBehind() {
        HopperCourt court = Games.at(9, new int[0]);
        ends("first", court, 0);
        ends("first", court, 1);
        ends("first", court, 2);
        HopperCourt below = Games.at(9, new int[] {6, 14});
        ends("second", below, 118);
        ends("second", below, 119);
        ends("second", below, 120);
        HopperCourt rim = Games.at(18, new int[] {20, 18, 76, 77});
        ends("over 22, the last of its row", rim, 21, 20);
        HopperCourt other = Games.at(18, new int[] {20, 18});
        ends("over 98, the first of its row", other, 99);
        ends("over 100 and 101, of the camp's last row", other, 88, 77, 89);
    }

    /** 55 and 56 are the last and the first cell of two rows, 64 and 65 too. */
    private static void rowsDoNotRunOn() {
        HopperCourt court = Games.at(18, new int[] {44, 54, 76, 66});
        ends("on the last cell of its row", court, 55, 44, 53, 64);
        ends("beside it", court, 54, 43, 44, 53, 63, 64);
        Games.play(court, 54, 44);
        ends("on the first cell of its row", court, 65, 56, 67, 76);
        ends("beside it", court, 66, 56, 57, 67, 76, 77);
    }

    private static void aHopGoesStraight() {
        isMove("over 6", Games.at(9, new int[0]), 3, 14, 1);
        isNoMove("over 6 and round a corner", Games.at(9, new int[0]), 3, 15);
        isNoMove("over 7 and round a corner", Games.at(9, new int[0]), 3, 17);
        isNoMove("over two marbles", Games.at(9, new int[0]), 1, 14);
        isNoMove("over a marble and an empty cell", Games.at(9, new int[0]), 6, 27);
    }

    private static void aChainIsOneHopOrMore() {
        isMove("one hop", Games.at(9, new int[0]), 3, 14, 1);
        isMove("two hops", Games.at(9, Games.TWO_CHAINS), 0, 16, 2);
        isMove("three hops", Games.at(9, Games.CROSSED_CHAINS), 42, 4, 3);
    }

    /** Each hop can be taken back at once, so a marble that can hop could come back to its cell. */
    private static void aChainMustNotEndWhereItBegan() {
        HopperCourt court = Games.at(9, new int[0]);
        isNoMove("to 14 and back", court, 3, 3);
        ends("to 14 or 16 and back", court, 3, 14, 16);
        isNoMove("round more cells", Games.at(9, Games.CROSSED_CHAINS), 42, 42);
        isNoMove("out of the goal and back", Games.at(9, Games.OUT_AND_IN), 3, 3);
    }

    /** Row 4 from left to right: 13 is of the camp 5, 14 to 18 of none, 19 of the camp 1. */
    private static void aMoveEndsInNoCampOfOthers() {
        int[] left = {6, 14, 114, 106};
        int[] right = {9, 18, 114, 106};
        isNoMove("a step into the camp 5, whose player is not there", Games.at(9, left), 14, 13);
        isNoMove("a step into the camp 1, whose player is not there", Games.at(9, right), 18, 19);
        HopperCourt three = Games.at(11, new int[] {9, 18, 19, 31, 114, 106});
        isNoMove("a step into the camp 1, whose player is there", three, 18, 19);
        isNoMove("a hop into the camp 1", hopInto(19), 17, 19);
        isMove("a hop to a cell of no camp", hopInto(16), 18, 16, 1);
        isNoMove("the third hop of a chain", Games.at(11, Games.THROUGH_A_CAMP), 5, 20);
    }

    /** Two marbles of player 0 side by side on 17 and 18; the camp 1 is empty. */
    private static HopperCourt hopInto(int cell) {
        HopperCourt court = Games.at(9, new int[] {8, 17, 114, 106, 9, 18, 106, 114});
        Check.due("at(" + cell + ")", court.at(cell), -1);
        return court;
    }

    private static void aMoveEndsInTheOwnCampOrTheGoal() {
        isMove("a step home", Games.at(9, new int[] {6, 14, 114, 106}), 14, 6, 0);
        isMove("a hop home", Games.at(9, new int[] {3, 14, 114, 106}), 14, 3, 1);
        HopperCourt exchanged = Games.at(11, Games.EXCHANGED);
        exchanged.undo();
        isMove("a step into the goal", exchanged, 106, 114, 0);
        isMove("a chain home", Games.at(9, Games.CROSSED_CHAINS), 42, 4, 3);
        HopperCourt third = Games.at(9, Arrays.copyOf(Games.OUT_AND_IN, 26));
        isMove("a chain into the goal", third, 79, 3, 4);
    }

    private static void aChainMayTouchACampOfOthersInBetween() {
        HopperCourt court = Games.at(11, Games.THROUGH_A_CAMP);
        Check.due("chainAt(5, 43, 1)", court.chainAt(5, 43, 1), 20);
        Check.due("campOf(20)", court.campOf(20), 1);
        isMove("over the camp 1", court, 5, 43, 3);
    }

    private static void theGoalIsNotLeft() {
        HopperCourt exchanged = Games.at(11, Games.EXCHANGED);
        Games.play(exchanged, 20, 18, 113, 104);
        isNoMove("a step out", exchanged, 114, 105);
        isNoMove("another step out", exchanged, 114, 106);
        isMove("a step within", exchanged, 114, 113, 0);
        HopperCourt hopper = Games.at(9, Games.OUT_AND_IN);
        isNoMove("a hop out", hopper, 3, 16);
    }

    private static void theGoalMayBeLeftInBetween() {
        HopperCourt court = Games.at(9, Games.OUT_AND_IN);
        Check.due("chainAt(3, 0, 0)", court.chainAt(3, 0, 0), 16);
        Check.due("campOf(16)", court.campOf(16), -1);
        isMove("out and in", court, 3, 0, 3);
    }

    private static void aNeighbouringCellIsNeverTheEndOfAChain() {
        for (int[] game : new int[][] {Games.TWO_CHAINS, Games.CROSSED_CHAINS, Games.OUT_AND_IN}) {
            for (int from = 0; from < 121; from++) {
                HopperCourt court = Games.at(9, game);
                for (int k = 0; k < court.ends(from); k++) {
                    int to = court.endAt(from, k);
                    boolean isNext = court.distance(from, to) == 1;
                    Check.due("hops(" + from + ", " + to + ") is 0", court.hops(from, to) == 0, isNext);
                }
            }
        }
    }
}
