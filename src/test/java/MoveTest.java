/** Promise 5: move. */
final class MoveTest {
    public static void main(String[] args) {
        stepsAndChainsAreCounted();
        movesCanGoBackHome();
        whatIsNoMove();
        camps();
        theGoalIsNotLeft();
        exceptionsInTheirOrder();
        threeHundredMoves();
        Check.end();
    }

    private static void refuses(HopperCourt court, int from, int to, String why) {
        String before = Games.picture(court);
        Check.throwsArgument("move(" + from + ", " + to + "), " + why, () -> court.move(from, to));
        Check.due("the game after move(" + from + ", " + to + ")", Games.picture(court), before);
    }

    private static void stepsAndChainsAreCounted() {
        HopperCourt court = Games.at(9, new int[0]);
        Check.due("move(6, 14), a step", court.move(6, 14), 0);
        Check.due("move(115, 102), a hop", court.move(115, 102), 1);
        Check.due("move(0, 16) over 3 and 7", Games.at(9, Games.TWO_CHAINS).move(0, 16), 2);
        Check.due("move(5, 43)", Games.at(11, Games.THROUGH_A_CAMP).move(5, 43), 3);
        HopperCourt crossed = Games.at(9, Games.CROSSED_CHAINS);
        Check.due("move(42, 4)", crossed.move(42, 4), 3);
        Check.due("at(42)", crossed.at(42), -1);
        Check.due("at(4)", crossed.at(4), 0);
        Check.due("at(19), where it was in between", crossed.at(19), -1);
        Check.due("made()", crossed.made(), 15);
        Check.due("turn()", crossed.turn(), 3);
    }

    private static void movesCanGoBackHome() {
        HopperCourt court = Games.at(9, new int[] {6, 14, 114, 106});
        Check.due("move(14, 6), back into the own camp", court.move(14, 6), 0);
        Check.due("move(106, 114), back into the own camp", court.move(106, 114), 0);
        Check.due("at(6)", court.at(6), 0);
    }

    private static void whatIsNoMove() {
        int[] none = new int[0];
        refuses(Games.at(9, none), 60, 61, "no marble there");
        refuses(Games.at(9, none), 114, 106, "a marble of another player");
        refuses(Games.at(9, none), 6, 6, "no way at all");
        refuses(Games.at(9, none), 0, 0, "no way at all, of a shut-in marble");
        refuses(Games.at(9, none), 0, 1, "the end is taken by an own marble");
        refuses(Games.at(9, none), 6, 27, "two steps over an empty cell");
        refuses(Games.at(9, none), 6, 26, "two steps over an empty cell");
        refuses(Games.at(9, none), 3, 15, "a hop that would have to bend");
        refuses(Games.at(9, none), 1, 14, "a hop over two marbles");
        refuses(Games.at(9, none), 9, 19, "a jump to a camp far off");
        refuses(Games.at(9, none), 6, 114, "the end is taken by another player");
        refuses(Games.at(9, Games.CROSSED_CHAINS), 42, 42, "a chain back to where it began");
    }

    private static void camps() {
        HopperCourt court = Games.at(9, new int[0]);
        Games.play(court, 9, 18, 114, 106);
        refuses(court, 18, 19, "a camp that is neither the own one nor the goal");
        HopperCourt sides = Games.at(18, new int[0]);
        Games.play(sides, 19, 18, 101, 102, 18, 9 + 8, 102, 103, 17, 16, 103, 104);
        refuses(sides, 16, 8, "the camp at the top");
        Games.play(sides, 16, 17, 104, 105, 17, 18, 105, 104);
        Check.due("move(18, 19), the own camp", sides.move(18, 19), 0);
    }

    private static void theGoalIsNotLeft() {
        HopperCourt court = Games.at(9, Games.OUT_AND_IN);
        refuses(court, 3, 16, "the first hop alone leaves the goal");
        Check.due("move(3, 0), by hops out of the goal and in again", court.move(3, 0), 3);
        HopperCourt exchanged = Games.at(11, Games.EXCHANGED);
        Games.play(exchanged, 20, 18, 113, 104);
        refuses(exchanged, 114, 106, "a step out of the goal");
        Check.due("move(114, 113), a step within the goal", exchanged.move(114, 113), 0);
    }

    private static void exceptionsInTheirOrder() {
        int[] wrong = {-1, 121, Integer.MIN_VALUE, Integer.MAX_VALUE};
        HopperCourt over = Games.over();
        HopperCourt open = Games.at(9, new int[0]);
        HopperCourt none = new HopperCourt();
        for (HopperCourt court : new HopperCourt[] {over, open, none}) {
            String before = Games.picture(court);
            for (int cell : wrong) {
                Check.throwsBounds("move(" + cell + ", 14)", () -> court.move(cell, 14));
                Check.throwsBounds("move(6, " + cell + ")", () -> court.move(6, cell));
                Check.throwsBounds("move of " + cell + " twice", () -> court.move(cell, cell));
            }
            Check.due("the game after such moves", Games.picture(court), before);
        }
        Check.due("turn() of a game that is over", over.turn(), -1);
        Check.throwsState("move(7, 15) when the game is over", () -> over.move(7, 15));
        Check.throwsState("move(7, 7) when the game is over", () -> over.move(7, 7));
        Check.throwsState("move(7, 15) in no game", () -> none.move(7, 15));
        Check.throwsState("move(7, 7) in no game", () -> none.move(7, 7));
    }

    private static void threeHundredMoves() {
        HopperCourt court = Games.at(9, new int[0]);
        for (int round = 0; round < 75; round++) {
            Games.play(court, 6, 14, 114, 106, 14, 6, 106, 114);
        }
        Check.due("made()", court.made(), 300);
        Check.due("turn() after 300 moves", court.turn(), 0);
        Check.due("moves() after 300 moves", court.moves(), 14);
        Check.throwsState("move(6, 14) after 300 moves", () -> court.move(6, 14));
        Check.throwsState("move(6, 6) after 300 moves", () -> court.move(6, 6));
        Check.throwsBounds("move(6, 121) after 300 moves", () -> court.move(6, 121));
        Check.throwsState("pass() after 300 moves", () -> {
            court.pass();
            return 0;
        });
        Check.due("made() after refused moves", court.made(), 300);
        Check.due("turn() after refused moves", court.turn(), 0);
        Check.due("at(6) after refused moves", court.at(6), 0);
        Check.due("undo()", court.undo(), 299);
        Check.due("the 300th move again", court.move(106, 114), 0);
        Check.throwsState("the 301st move", () -> court.move(6, 14));
    }
}
