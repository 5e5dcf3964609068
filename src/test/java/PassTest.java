/** Promise 6: pass. */
final class PassTest {
    public static void main(String[] args) {
        refusedWhileThereIsAMove();
        refusedWhileThereIsOneMove();
        aRefusedPassDoesNotCount();
        onlyTheTurnGoesOn();
        nobodyFinishesByAPass();
        aPassCountsForThePatience();
        refusedWhenTheGameIsOver();
        refusedAfterThreeHundred();
        theThreeHundredthMayBeAPass();
        Check.end();
    }

    private static Check.Call pass(HopperCourt court) {
        return () -> {
            court.pass();
            return 0;
        };
    }

    private static void refusedWhileThereIsAMove() {
        Check.throwsState("pass() in no game", pass(new HopperCourt()));
        for (int[] game : new int[][] {{}, {6, 14}, Games.TWO_CHAINS, Games.OUT_AND_IN}) {
            HopperCourt court = Games.at(9, game);
            String before = Games.picture(court);
            Check.throwsState("pass() with moves there", pass(court));
            Check.due("the game after a refused pass", Games.picture(court), before);
        }
    }

    /** Player 0 has but one move left, the hop of its last marble from 0 to 5. */
    private static void refusedWhileThereIsOneMove() {
        HopperCourt court = Games.at(9, Games.SHUT_IN);
        court.pass();
        Games.play(court, 5, 4);
        Check.due("moves()", court.moves(), 1);
        Check.throwsState("pass() with one move", pass(court));
        Check.due("made()", court.made(), 82);
        Check.due("turn()", court.turn(), 0);
        Check.due("move(0, 5)", court.move(0, 5), 1);
    }

    private static void aRefusedPassDoesNotCount() {
        HopperCourt court = new HopperCourt();
        court.setPatience(2);
        court.begin(9);
        Games.play(court, 6, 14, 114, 106);
        for (int i = 0; i < 3; i++) {
            Check.throwsState("pass() with moves there", pass(court));
        }
        Games.play(court, 14, 6);
        Check.throwsState("pass() with moves there", pass(court));
        court.setPatience(3);
        Games.play(court, 106, 114);
        Check.due("turn() with two moves of 0", court.turn(), 0);
        Check.due("made()", court.made(), 4);
        Check.due("undo(), which finds no pass", court.undo(), 3);
        Check.due("at(106)", court.at(106), 3);
    }

    private static void onlyTheTurnGoesOn() {
        HopperCourt court = Games.at(9, Games.SHUT_IN);
        Check.due("moves()", court.moves(), 0);
        Check.due("turn() of one without a move", court.turn(), 0);
        Check.due("bestFrom()", court.bestFrom(), -1);
        Check.due("bestTo()", court.bestTo(), -1);
        String before = Games.picture(court);
        Check.throwsArgument("move(0, 1) of one without a move", () -> court.move(0, 1));
        court.pass();
        Check.due("turn() after a pass", court.turn(), 3);
        Check.due("made() after a pass", court.made(), 81);
        Check.due("all else after a pass", Games.picture(court),
                before.replace("turn 0 made 80", "turn 3 made 81"));
        Check.throwsState("pass() of player 3, who has moves", pass(court));
        Games.play(court, 48, 58);
        court.pass();
        Check.due("made() after another pass", court.made(), 83);
        Check.due("undo() of a pass", court.undo(), 82);
        Check.due("turn() after that", court.turn(), 0);
        Check.due("undo() of a move", court.undo(), 81);
        Check.due("undo() of the first pass", court.undo(), 80);
        Check.due("the game after that", Games.picture(court), before);
    }

    private static void nobodyFinishesByAPass() {
        HopperCourt court = Games.at(9, Games.SHUT_IN);
        court.setFill(9);
        court.pass();
        Check.due("finished(0) after a pass", court.finished(0), -1);
        Games.play(court, 48, 58);
        Check.due("finished(0) after the next move", court.finished(0), 0);
        Check.due("turn()", court.turn(), 3);
    }

    private static void aPassCountsForThePatience() {
        HopperCourt court = Games.at(9, Games.SHUT_IN);
        court.setPatience(41);
        court.pass();
        Check.due("isOut(3) with 40 moves", court.isOut(3), false);
        Games.play(court, 48, 58);
        Check.due("isOut(0) with 40 moves and a pass", court.isOut(0), true);
        Check.due("isOut(3) with 41 moves", court.isOut(3), true);
        Check.due("turn() then", court.turn(), -1);
        court.undo();
        court.undo();
        court.setPatience(42);
        court.pass();
        Games.play(court, 48, 58);
        Check.due("isOut(0): the undone pass counts no more", court.isOut(0), false);
        Check.due("turn() then", court.turn(), 0);
        court.setPatience(41);
        court.pass();
        Check.due("isOut(3), seen behind a pass", court.isOut(3), true);
        Check.due("isOut(0), seen behind its own pass", court.isOut(0), true);
        Check.due("turn() then", court.turn(), -1);
    }

    private static void refusedWhenTheGameIsOver() {
        HopperCourt court = Games.over();
        String before = Games.picture(court);
        Check.throwsState("pass() when the game is over", pass(court));
        Check.due("the game after a refused pass", Games.picture(court), before);
    }

    private static void refusedAfterThreeHundred() {
        HopperCourt court = Games.at(9, Games.SHUT_IN);
        for (int round = 0; round < 55; round++) {
            court.pass();
            Games.play(court, 48, 58);
            court.pass();
            Games.play(court, 58, 48);
        }
        Check.due("made()", court.made(), 300);
        Check.due("moves()", court.moves(), 0);
        Check.due("turn()", court.turn(), 0);
        Check.throwsState("pass() after 300 moves", pass(court));
        Check.due("made() after a refused pass", court.made(), 300);
        court.undo();
        court.undo();
        court.pass();
        Check.due("made() after the 299th, a pass", court.made(), 299);
    }

    /** Here the player 3 has no move, and comes on turn behind odd numbers of moves. */
    private static void theThreeHundredthMayBeAPass() {
        HopperCourt court = Games.at(9, Games.shutInBelow());
        Check.due("made()", court.made(), 81);
        for (int made = 81; made < 299; made += 2) {
            boolean forth = made % 4 == 1;
            court.pass();
            Games.play(court, forth ? 72 : 62, forth ? 62 : 72);
        }
        Check.due("made()", court.made(), 299);
        Check.due("the 300th, a pass", Check.outcome(pass(court)), "0");
        Check.due("made()", court.made(), 300);
        Check.due("turn()", court.turn(), 0);
        Check.throwsState("the 301st, a move", () -> court.move(72, 62));
        Check.due("undo() of a pass", court.undo(), 299);
        Check.due("turn()", court.turn(), 3);
        Check.due("the 300th, a pass again", Check.outcome(pass(court)), "0");
    }
}
