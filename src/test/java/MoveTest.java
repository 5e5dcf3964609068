/** Promise 5: move. */
final class MoveTest {
    public static void main(String[] args) {
        stepsAndChainsAreCounted();
        movesCanGoBackHome();
        whatIsNoMove();
        camps();
        theGoalIsNotLeft();
        exceptionsInTheirOrder();
        theFirstAndTheLastCell();
        aRefusedMoveDoesNotCount();
        aStepIsNoHop();
        threeHundredMoves();
        theThreeHundredthMoveIsAWholeOne();
        movesOfOneGameAreCounted();
        undoneMovesAreNotCounted();
        Check.end();
    }

    private static void refuses(HopperCourt court, int from, int to, String why) {
        String before = Games.picture(court);
        Check.throwsArgument("move(" + from + ", " + to + "), " + why, () -> court.move(from, to));
        Check.due("the game after move(" + from + ", " + to + ")", Games.picture(court), before);
    }

    private static void stepsAndChainsAreCounted() {
        HopperCourt court = Games.at(9, new int[0]);
        Check.due("move(6, 14), a step", court.move(6, 14), 0);
        Check.due("move(115, 102), a hop", court.move(115, 102), 1);
        Check.due("move(0, 16) over 3 and 7", Games.at(9, Games.TWO_CHAINS).move(0, 16), 2);
        Check.due("move(5, 43)", Games.at(11, Games.THROUGH_A_CAMP).move(5, 43), 3);
        HopperCourt crossed = Games.at(9, Games.CROSSED_CHAINS);
        Check.due("move(42, 4)", crossed.move(42, 4), 3);
        Check.due("at(42)", crossed.at(42), -1);
        Check.due("at(4)", crossed.at(4), 0);
        Check.due("at(19), where it was in between", crossed.at(19), -1);
        Check.due("made()", crossed.made(), 15);
        Check.due("turn()", crossed.turn(), 3);
    }

    private static void movesCanGoBackHome() {
        HopperCourt court = Games.at(9, new int[] {6, 14, 114, 106});
        Check.due("move(14, 6), back into the own camp", court.move(14, 6), 0);
        Check.due("move(106, 114), back into the own camp", court.move(106, 114), 0);
        Check.due("at(6)", court.at(6), 0);
    }

    private static void whatIsNoMove() {
        int[] none = new int[0];
        refuses(Games.at(9, none), 60, 61, "no marble there");
        refuses(Games.at(9, none), 114, 106, "a marble of another player");
        refuses(Games.at(9, none), 6, 6, "no way at all");
        refuses(Games.at(9, none), 0, 0, "no way at all, of a shut-in marble");
        refuses(Games.at(9, none), 0, 1, "the end is taken by an own marble");
        refuses(Games.at(9, none), 6, 27, "two steps over an empty cell");
        refuses(Games.at(9, none), 6, 26, "two steps over an empty cell");
        refuses(Games.at(9, none), 3, 15, "a hop that would have to bend");
        refuses(Games.at(9, none), 1, 14, "a hop over two marbles");
        refuses(Games.at(9, none), 9, 19, "a jump to a camp far off");
        refuses(Games.at(9, none), 6, 114, "the end is taken by another player");
        refuses(Games.at(9, Games.CROSSED_CHAINS), 42, 42, "a chain back to where it began");
    }

    private static void camps() {
        HopperCourt court = Games.at(9, new int[0]);
        Games.play(court, 9, 18, 114, 106);
        refuses(court, 18, 19, "a camp that is neither the own one nor the goal");
        HopperCourt sides = Games.at(18, new int[0]);
        Games.play(sides, 19, 18, 101, 102, 18, 9 + 8, 102, 103, 17, 16, 103, 104);
        refuses(sides, 16, 8, "the camp at the top");
        Games.play(sides, 16, 17, 104, 105, 17, 18, 105, 104);
        Check.due("move(18, 19), the own camp", sides.move(18, 19), 0);
    }

    private static void theGoalIsNotLeft() {
        HopperCourt court = Games.at(9, Games.OUT_AND_IN);
        refuses(court, 3, 16, "the first hop alone leaves the goal");
        Check.due("move(3, 0), by hops out of the goal and in again", court.move(3, 0), 3);
        HopperCourt exchanged = Games.at(11, Games.EXCHANGED);
        Games.play(exchanged, 20, 18, 113, 104);
        refuses(exchanged, 114, 106, "a step out of the goal");
        Check.due("move(114, 113), a step within the goal", exchanged.move(114, 113), 0);
    }

    private static void exceptionsInTheirOrder() {
        int[] wrong = {-1, 121, Integer.MIN_VALUE, Integer.MAX_VALUE};
        HopperCourt over = Games.over();
        HopperCourt open = Games.at(9, new int[0]);
        HopperCourt none = new HopperCourt();
        for (HopperCourt court : new HopperCourt[] {over, open, none}) {
            String before = Games.picture(court);
            for (int cell : wrong) {
                Check.throwsBounds("move(" + cell + ", 14)", () -> court.move(cell, 14));
                Check.throwsBounds("move(6, " + cell + ")", () -> court.move(6, cell));
                Check.throwsBounds("move of " + cell + " twice", () -> court.move(cell, cell));
            }
            Check.due("the game after such moves", Games.picture(court), before);
        }
        Check.due("turn() of a game that is over", over.turn(), -1);
        Check.throwsState("move(7, 15) when the game is over", () -> over.move(7, 15));
        Check.throwsState("move(7, 7) when the game is over", () -> over.move(7, 7));
        Check.throwsState("move(7, 15) in no game", () -> none.move(7, 15));
        Check.throwsState("move(7, 7) in no game", () -> none.move(7, 7));
    }

    /** 0 and 120 are the last cells that either argument may be. */
    private static void theFirstAndTheLastCell() {
        Check.due("move(0, 16)", Games.at(9, Games.TWO_CHAINS).move(0, 16), 2);
        Check.due("move(3, 0)", Games.at(9, Games.OUT_AND_IN).move(3, 0), 3);
        HopperCourt court = Games.at(9, new int[] {6, 14, 115, 102, 14, 6});
        Check.due("move(120, 104)", court.move(120, 104), 2);
        Check.due("at(120)", court.at(120), -1);
        Games.play(court, 6, 14);
        Check.due("move(104, 120)", court.move(104, 120), 2);
        Check.due("at(120)", court.at(120), 3);
        for (int cell : new int[] {0, 120}) {
            refuses(Games.at(9, new int[0]), cell, 14, "a cell that there is");
            refuses(Games.at(9, new int[0]), 6, cell, "a cell that there is");
        }
    }

    private static void aRefusedMoveDoesNotCount() {
        HopperCourt court = new HopperCourt();
        court.setPatience(2);
        court.begin(9);
        Games.play(court, 6, 14);
        for (int i = 0; i < 3; i++) {
            Check.throwsArgument("move(114, 114)", () -> court.move(114, 114));
        }
        Games.play(court, 114, 106);
        for (int i = 0; i < 3; i++) {
            Check.throwsArgument("move(14, 14)", () -> court.move(14, 14));
        }
        Games.play(court, 14, 6);
        Check.due("turn() with one move of 3", court.turn(), 3);
        Check.due("made()", court.made(), 3);
    }

    /** A neighbouring empty cell is reached by a step, whatever marbles lie about. */
    private static void aStepIsNoHop() {
        HopperCourt court = Games.at(9, Games.CROSSED_CHAINS);
        Check.due("distance(42, 53)", court.distance(42, 53), 1);
        Check.due("move(42, 53)", court.move(42, 53), 0);
    }

    private static void threeHundredMoves() {
        HopperCourt court = Games.at(9, new int[0]);
        for (int round = 0; round < 75; round++) {
            Games.play(court, 6, 14, 114, 106, 14, 6, 106, 114);
        }
        Check.due("made()", court.made(), 300);
        Check.due("turn() after 300 moves", court.turn(), 0);
        Check.due("moves() after 300 moves", court.moves(), 14);
        Check.throwsState("move(6, 14) after 300 moves", () -> court.move(6, 14));
        Check.throwsState("move(6, 6) after 300 moves", () -> court.move(6, 6));
        Check.throwsBounds("move(6, 121) after 300 moves", () -> court.move(6, 121));
        Check.throwsState("pass() after 300 moves", () -> {
            court.pass();
            return 0;
        });
        Check.due("made() after refused moves", court.made(), 300);
        Check.due("turn() after refused moves", court.turn(), 0);
        Check.due("at(6) after refused moves", court.at(6), 0);
        Check.due("undo()", court.undo(), 299);
        Check.due("the 300th move again", court.move(106, 114), 0);
        Check.throwsState("the 301st move", () -> court.move(6, 14));
    }

    /** It may bring a player to its end, and the turn goes on. */
    private static void theThreeHundredthMoveIsAWholeOne() {
        HopperCourt court = Games.at(9, Games.SHUT_IN);
        for (int round = 0; round < 54; round++) {
            court.pass();
            Games.play(court, 48, 58);
            court.pass();
            Games.play(court, 58, 48);
        }
        court.pass();
        Games.play(court, 48, 58);
        court.pass();
        Check.due("made()", court.made(), 299);
        Check.due("finished(0)", court.finished(0), -1);
        court.setFill(9);
        Check.due("the 300th move", court.move(58, 48), 0);
        Check.due("made()", court.made(), 300);
        Check.due("finished(0) after the 300th move", court.finished(0), 0);
        Check.due("turn() after the 300th move", court.turn(), 3);
        Check.throwsState("the 301st move", () -> court.move(48, 58));
        Check.due("undo()", court.undo(), 299);
        Check.due("finished(0) after undo", court.finished(0), -1);
        Check.due("turn() after undo", court.turn(), 3);
    }

    private static void movesOfOneGameAreCounted() {
        HopperCourt court = new HopperCourt();
        for (int game = 0; game < 2; game++) {
            court.begin(9);
            for (int round = 0; round < 62; round++) {
                Games.play(court, 6, 14, 114, 106, 14, 6, 106, 114);
            }
            Check.due("made() in game " + game, court.made(), 248);
        }
        HopperCourt full = Games.at(63, Games.threeHundred());
        Check.throwsState("the 301st move", () -> full.move(6, 14));
        full.begin(63);
        Check.due("made() in a new game", full.made(), 0);
        Check.due("the first move of a new game", full.move(6, 14), 0);
        Check.due("made()", full.made(), 1);
    }

    private static void undoneMovesAreNotCounted() {
        HopperCourt court = Games.at(9, new int[] {6, 14});
        for (int i = 0; i < 250; i++) {
            Games.play(court, 114, 106);
            court.undo();
        }
        Check.due("made()", court.made(), 1);
        Check.due("turn()", court.turn(), 3);
        Check.due("move(114, 106)", court.move(114, 106), 0);
        HopperCourt full = Games.at(63, Games.threeHundred());
        for (int i = 0; i < 100; i++) {
            Check.due("undo()", full.undo(), 299);
            Check.due("the 300th move again", full.move(37, 36), 0);
        }
        Check.throwsState("the 301st move", () -> full.move(6, 14));
    }
}
