import java.util.Arrays;

/** Promise 7: undo. */
final class UndoTest {
    public static void main(String[] args) {
        wholeGamesBackAndForth();
        outsAreTakenBack();
        finishesAreTakenBack();
        aGameThatIsOverGoesOn();
        whoWasOutBeforeStaysOut();
        whoHadFinishedBeforeStaysSo();
        turnsAreAsTheyWereWhateverThePatience();
        nobodyFinishesByUndo();
        theFirstAndTheLastMove();
        noneWasMade();
        Check.end();
    }

    private static void wholeGamesBackAndForth() {
        int[][] games = {Games.SHUT_IN, Games.CROSSED_CHAINS, Games.OUT_AND_IN};
        for (int[] game : games) {
            int all = game.length / 2;
            for (int made = 0; made < all; made++) {
                HopperCourt court = Games.at(9, game);
                for (int left = all - 1; left >= made; left--) {
                    Check.due("undo()", court.undo(), left);
                }
                int[] begun = Arrays.copyOf(game, 2 * made);
                Check.due("the game taken back to " + made + " moves",
                        Games.picture(court), Games.picture(Games.at(9, begun)));
                Games.play(court, Arrays.copyOfRange(game, 2 * made, game.length));
                Check.due("the game played again",
                        Games.picture(court), Games.picture(Games.at(9, game)));
            }
        }
    }

    private static void outsAreTakenBack() {
        HopperCourt court = Games.at(11, Games.EXCHANGED_AND_LEFT);
        String before = Games.picture(court);
        court.setPatience(1);
        Games.play(court, 51, 50);
        Check.due("isOut(0)", court.isOut(0), true);
        Check.due("isOut(3)", court.isOut(3), true);
        Check.due("undo()", court.undo(), 31);
        Check.due("the game when outs are taken back", Games.picture(court), before);
    }

    private static void finishesAreTakenBack() {
        HopperCourt court = Games.at(11, Games.EXCHANGED_AND_LEFT);
        court.setFill(1);
        Games.play(court, 51, 50);
        Check.due("finished(0)", court.finished(0), 0);
        Check.due("finished(1)", court.finished(1), 3);
        String finished = Games.picture(court);
        Games.play(court, 50, 51);
        Check.due("undo() behind the finish", court.undo(), 32);
        Check.due("the game behind the finish", Games.picture(court), finished);
        Check.due("undo() of the finish", court.undo(), 31);
        String before = Games.picture(Games.at(11, Games.EXCHANGED_AND_LEFT));
        Check.due("the game before the finish", Games.picture(court), before);
    }

    private static void aGameThatIsOverGoesOn() {
        HopperCourt court = Games.over();
        Check.due("turn() when it is over", court.turn(), -1);
        Check.due("undo()", court.undo(), 1);
        Check.due("turn()", court.turn(), 1);
        Check.due("isOut(0)", court.isOut(0), false);
        Check.due("isOut(1)", court.isOut(1), false);
        Games.play(court, 20, 18);
        Check.due("turn() when it is over again", court.turn(), -1);
        court.setPatience(2);
        court.undo();
        Games.play(court, 20, 18, 14, 6);
        Check.due("isOut(1): undone moves count no more", court.isOut(1), false);
        Check.due("turn()", court.turn(), 1);
    }

    private static void noneWasMade() {
        HopperCourt court = new HopperCourt();
        Check.throwsState("undo() in no game", court::undo);
        court.begin(9);
        Check.throwsState("undo() before the first move", court::undo);
        Games.play(court, 6, 14);
        court.begin(9);
        String before = Games.picture(court);
        Check.throwsState("undo() of a move of the game before", court::undo);
        Check.due("the game after a refused undo", Games.picture(court), before);
        Games.play(court, 6, 14);
        Check.due("undo()", court.undo(), 0);
        Check.throwsState("undo() once more", court::undo);
    }

    /** Players 3 and 0 are out by one move, and 1 by a later one, which alone is undone. */
    private static void whoWasOutBeforeStaysOut() {
        HopperCourt court = Games.at(11, Games.EXCHANGED_AND_LEFT);
        court.setPatience(10);
        Games.play(court, 51, 50, 50, 51, 54, 44);
        Check.due("isOut(1)", court.isOut(1), true);
        Check.due("turn()", court.turn(), -1);
        Check.due("undo()", court.undo(), 33);
        Check.due("isOut(0), by an earlier move", court.isOut(0), true);
        Check.due("isOut(1), by the undone move", court.isOut(1), false);
        Check.due("isOut(3), by an earlier move", court.isOut(3), true);
        Check.due("turn()", court.turn(), 1);
        court.undo();
        Check.due("undo()", court.undo(), 31);
        Check.due("isOut(0), by an undone move", court.isOut(0), false);
        Check.due("isOut(3), by an undone move", court.isOut(3), false);
    }

    private static void whoHadFinishedBeforeStaysSo() {
        HopperCourt court = Games.at(11, Games.EXCHANGED);
        court.undo();
        court.undo();
        court.setFill(1);
        Games.play(court, 17, 9, 106, 114);
        Check.due("finished(0)", court.finished(0), 3);
        Check.due("finished(1)", court.finished(1), 0);
        Check.due("undo()", court.undo(), 21);
        Check.due("finished(0), by an earlier move", court.finished(0), 3);
        Check.due("finished(1), by the undone move", court.finished(1), -1);
        Check.due("turn()", court.turn(), 0);
        Check.due("undo()", court.undo(), 20);
        Check.due("finished(0), by an undone move", court.finished(0), -1);
        Check.due("turn()", court.turn(), 3);
    }

    /** Both players have made more moves than the patience then tells. */
    private static void turnsAreAsTheyWereWhateverThePatience() {
        HopperCourt court = Games.at(9, new int[] {6, 14, 114, 106, 14, 6, 106, 114});
        court.setPatience(1);
        Check.due("undo()", court.undo(), 3);
        Check.due("turn()", court.turn(), 3);
        Check.due("undo()", court.undo(), 2);
        Check.due("turn()", court.turn(), 0);
        Check.due("isOut(0)", court.isOut(0), false);
        Check.due("isOut(3)", court.isOut(3), false);
    }

    /** The goals of 0 and 3 are full, and one of ten is their own. */
    private static void nobodyFinishesByUndo() {
        HopperCourt court = Games.at(11, Games.EXCHANGED);
        Games.play(court, 20, 18);
        court.setFill(1);
        court.undo();
        Check.due("finished(0)", court.finished(0), -1);
        Check.due("turn()", court.turn(), 1);
    }

    private static void theFirstAndTheLastMove() {
        HopperCourt one = Games.at(9, new int[] {6, 14});
        Check.due("undo() of the first move", one.undo(), 0);
        Check.throwsState("undo() behind it", one::undo);
        HopperCourt full = Games.at(63, Games.threeHundred());
        for (int left = 299; left >= 100; left--) {
            Check.due("undo()", full.undo(), left);
        }
        HopperCourt half = Games.at(63, Arrays.copyOf(Games.threeHundred(), 400));
        for (int left = 199; left >= 0; left--) {
            Check.due("undo()", half.undo(), left);
        }
        Check.throwsState("undo() when all are undone", half::undo);
        Check.due("made()", half.made(), 0);
        Check.due("turn()", half.turn(), 0);
    }
}
