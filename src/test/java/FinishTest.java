import java.util.Arrays;

/** Promise 19: finished. */
final class FinishTest {
    public static void main(String[] args) {
        severalFinishByOneMove();
        theFillTellsHowManyOwn();
        allCellsOfTheGoalHaveMarbles();
        aFinishStays();
        aFinishStaysWhenAMarbleLeavesTheGoal();
        allSixFinishByOneMove();
        allSixFinishOneByOne();
        asManyAsTheFillOrMore();
        nineMarblesInTheGoalAreTooFew();
        whoFinishesIsNotOut();
        whoIsOutDoesNotFinish();
        wholeGame();
        noSuchPlace();
        Check.end();
    }

    private static void places(String name, HopperCourt court, int... players) {
        for (int place = 0; place < 6; place++) {
            int want = place < players.length ? players[place] : -1;
            Check.due(name + ": finished(" + place + ")", court.finished(place), want);
        }
    }

    private static void severalFinishByOneMove() {
        HopperCourt court = Games.at(11, Games.EXCHANGED);
        places("with fill 10", court);
        court.setFill(1);
        Games.play(court, 20, 18);
        places("by a move of another player", court, 0, 3);
        HopperCourt own = Games.at(11, Games.EXCHANGED);
        own.undo();
        own.setFill(1);
        Games.play(own, 106, 114);
        places("by a move of player 0", own, 0, 3);
        HopperCourt apart = Games.at(11, Games.EXCHANGED);
        apart.undo();
        apart.undo();
        apart.setFill(1);
        Games.play(apart, 17, 9);
        places("by a move of player 3, the goal of 0 having a hole", apart, 3);
        Games.play(apart, 106, 114);
        places("a move later", apart, 3, 0);
    }

    private static void theFillTellsHowManyOwn() {
        for (int fill = 1; fill <= 10; fill++) {
            HopperCourt court = Games.at(9, Games.SHUT_IN);
            court.setFill(fill);
            Games.play(court.turn() == 0 ? passed(court) : court, 48, 58);
            if (fill <= 9) {
                places("nine own, fill " + fill, court, 0);
            } else {
                places("nine own, fill " + fill, court);
            }
        }
    }

    private static HopperCourt passed(HopperCourt court) {
        court.pass();
        return court;
    }

    private static void allCellsOfTheGoalHaveMarbles() {
        HopperCourt court = Games.at(11, Games.EXCHANGED);
        court.setFill(1);
        Games.play(court, 20, 18);
        court.undo();
        court.setFill(10);
        Games.play(court, 20, 18, 113, 104);
        court.setFill(1);
        Games.play(court, 8, 16);
        places("a hole in either goal", court);
        Games.play(court, 18, 17, 104, 113);
        places("only the goal of 0 is full again", court, 0);
    }

    private static void aFinishStays() {
        HopperCourt court = Games.at(11, Games.EXCHANGED);
        court.setFill(1);
        Games.play(court, 20, 18);
        court.setFill(10);
        Games.play(court, 18, 17, 17, 29);
        places("with a higher fill", court, 0, 3);
    }

    private static void whoIsOutDoesNotFinish() {
        HopperCourt court = Games.at(11, Games.EXCHANGED_AND_LEFT);
        court.setPatience(1);
        Games.play(court, 51, 50);
        Check.due("isOut(0)", court.isOut(0), true);
        court.setFill(1);
        Games.play(court, 50, 51);
        places("out, with a full goal", court);
    }

    private static void wholeGame() {
        HopperCourt court = Games.at(3, new int[0]);
        for (int i = 0; i < 122; i++) {
            if (i == 115 || i == 116 || i == 121) {
                Check.due("finished(0) after " + i + " moves", court.finished(0), i < 116 ? -1 : 1);
                Check.due("finished(1) after " + i + " moves", court.finished(1), -1);
            }
            court.move(court.bestFrom(), court.bestTo());
        }
        places("best moves of 0 and 1", court, 1, 0);
        Check.due("turn()", court.turn(), -1);
        Check.due("way(0)", court.way(0), 0);
        Check.due("way(1)", court.way(1), 0);
    }

    private static void noSuchPlace() {
        for (HopperCourt court : new HopperCourt[] {new HopperCourt(), Games.at(63, new int[0])}) {
            for (int place : new int[] {-1, 6, 7, Integer.MIN_VALUE, Integer.MAX_VALUE}) {
                Check.throwsBounds("finished(" + place + ")", () -> court.finished(place));
            }
            places("nobody yet", court);
        }
    }

    /** Player 3 has finished, and 0 leaves the goal of 3, which has a hole then. */
    private static void aFinishStaysWhenAMarbleLeavesTheGoal() {
        HopperCourt court = Games.at(11, Games.EXCHANGED);
        court.undo();
        court.undo();
        court.setFill(1);
        Games.play(court, 17, 9);
        places("a full goal", court, 3);
        Games.play(court, 8, 17);
        Check.due("at(8), in the goal of 3", court.at(8), -1);
        places("a hole in the goal", court, 3);
        Games.play(court, 20, 18);
        Check.due("turn(), without 3", court.turn(), 0);
        Games.play(court, 17, 8);
        places("a full goal again", court, 3);
    }

    /** The last of twelve marbles comes into its place, and all six goals are full. */
    private static void allSixFinishByOneMove() {
        int last = Games.SIX_EXCHANGED.length - 2;
        HopperCourt court = Games.at(63, Arrays.copyOf(Games.SIX_EXCHANGED, last));
        places("ahead of the last move", court);
        court.setFill(1);
        Games.play(court, 106, 107);
        places("the last move", court, 0, 1, 2, 3, 4, 5);
        Check.due("turn() when all have finished", court.turn(), -1);
        Check.due("undo()", court.undo(), last / 2);
        places("the last move undone", court);
        Check.due("turn()", court.turn(), 5);
        court.setFill(2);
        Games.play(court, 106, 107);
        places("one is fewer than two", court);
        Check.due("turn()", court.turn(), 0);
    }

    private static void allSixFinishOneByOne() {
        int[] game = Games.SIX_EXCHANGED;
        int before = game.length - 12;
        HopperCourt court = Games.at(63, Arrays.copyOf(game, before));
        court.setFill(1);
        int[] order = {0, 1, 2, 3, 4, 5};
        for (int i = 0; i < 6; i++) {
            places("by " + i + " moves", court, Arrays.copyOf(order, i));
            Check.due("turn()", court.turn(), i);
            Games.play(court, game[before + 2 * i], game[before + 2 * i + 1]);
        }
        places("by all six moves", court, order);
    }

    private static void asManyAsTheFillOrMore() {
        for (int fill = 8; fill <= 10; fill++) {
            HopperCourt court = Games.at(9, Games.SHUT_IN);
            court.pass();
            court.setFill(fill);
            Games.play(court, 48, 58);
            Check.due("finished(0) with nine of fill " + fill, court.finished(0), fill <= 9 ? 0 : -1);
        }
        for (int fill = 1; fill <= 2; fill++) {
            HopperCourt court = Games.at(11, Games.EXCHANGED);
            court.setFill(fill);
            Games.play(court, 20, 18);
            Check.due("finished(0) with one of fill " + fill, court.finished(0), fill == 1 ? 0 : -1);
        }
        HopperCourt ten = Games.at(3, new int[0]);
        for (int i = 0; i < 116; i++) {
            ten.move(ten.bestFrom(), ten.bestTo());
        }
        places("ten of fill 10", ten, 1);
    }

    private static void nineMarblesInTheGoalAreTooFew() {
        HopperCourt court = Games.at(11, Games.EXCHANGED);
        court.undo();
        court.setFill(1);
        Games.play(court, 106, 105);
        Check.due("at(114), in the goal of 0", court.at(114), -1);
        places("nine in the goal of 0", court, 3);
        HopperCourt own = Games.at(9, Arrays.copyOf(Games.SHUT_IN, 156));
        Check.due("at(112), in the goal of 0", own.at(112), -1);
        own.setFill(1);
        Games.play(own, 103, 104);
        places("eight of its own in the goal of 0, one of 3, and a hole", own);
        own.undo();
        Games.play(own, 103, 112);
        places("nine of its own and one of 3", own, 0);
    }

    /** With patience 41 player 0, whose last marble is at home, would be out when it is to be on turn. */
    private static void whoFinishesIsNotOut() {
        HopperCourt court = Games.at(9, Games.SHUT_IN);
        court.pass();
        court.setPatience(41);
        court.setFill(9);
        Games.play(court, 48, 58);
        places("nine of fill 9", court, 0);
        Check.due("isOut(0)", court.isOut(0), false);
        Check.due("isOut(3)", court.isOut(3), true);
        Check.due("turn()", court.turn(), -1);
    }
}
