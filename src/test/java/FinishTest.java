/** Promise 19: finished. */
final class FinishTest {
    public static void main(String[] args) {
        severalFinishByOneMove();
        theFillTellsHowManyOwn();
        allCellsOfTheGoalHaveMarbles();
        aFinishStays();
        whoIsOutDoesNotFinish();
        wholeGame();
        noSuchPlace();
        Check.end();
    }

    private static void places(String name, HopperCourt court, int... players) {
        for (int place = 0; place < 6; place++) {
            int want = place < players.length ? players[place] : -1;
            Check.due(name + ": finished(" + place + ")", court.finished(place), want);
        }
    }

    private static void severalFinishByOneMove() {
        HopperCourt court = Games.at(11, Games.EXCHANGED);
        places("with fill 10", court);
        court.setFill(1);
        Games.play(court, 20, 18);
        places("by a move of another player", court, 0, 3);
        HopperCourt own = Games.at(11, Games.EXCHANGED);
        own.undo();
        own.setFill(1);
        Games.play(own, 106, 114);
        places("by a move of player 0", own, 0, 3);
        HopperCourt apart = Games.at(11, Games.EXCHANGED);
        apart.undo();
        apart.undo();
        apart.setFill(1);
        Games.play(apart, 17, 9);
        places("by a move of player 3, the goal of 0 having a hole", apart, 3);
        Games.play(apart, 106, 114);
        places("a move later", apart, 3, 0);
    }

    private static void theFillTellsHowManyOwn() {
        for (int fill = 1; fill <= 10; fill++) {
            HopperCourt court = Games.at(9, Games.SHUT_IN);
            court.setFill(fill);
            Games.play(court.turn() == 0 ? passed(court) : court, 48, 58);
            if (fill <= 9) {
                places("nine own, fill " + fill, court, 0);
            } else {
                places("nine own, fill " + fill, court);
            }
        }
    }

    private static HopperCourt passed(HopperCourt court) {
        court.pass();
        return court;
    }

    private static void allCellsOfTheGoalHaveMarbles() {
        HopperCourt court = Games.at(11, Games.EXCHANGED);
        court.setFill(1);
        Games.play(court, 20, 18);
        court.undo();
        court.setFill(10);
        Games.play(court, 20, 18, 113, 104);
        court.setFill(1);
        Games.play(court, 8, 16);
        places("a hole in either goal", court);
        Games.play(court, 18, 17, 104, 113);
        places("only the goal of 0 is full again", court, 0);
    }

    private static void aFinishStays() {
        HopperCourt court = Games.at(11, Games.EXCHANGED);
        court.setFill(1);
        Games.play(court, 20, 18);
        court.setFill(10);
        Games.play(court, 18, 17, 17, 29);
        places("with a higher fill", court, 0, 3);
    }

    private static void whoIsOutDoesNotFinish() {
        HopperCourt court = Games.at(11, Games.EXCHANGED_AND_LEFT);
        court.setPatience(1);
        Games.play(court, 51, 50);
        Check.due("isOut(0)", court.isOut(0), true);
        court.setFill(1);
        Games.play(court, 50, 51);
        places("out, with a full goal", court);
    }

    private static void wholeGame() {
        HopperCourt court = Games.at(3, new int[0]);
        for (int i = 0; i < 122; i++) {
            if (i == 115 || i == 116 || i == 121) {
                Check.due("finished(0) after " + i + " moves", court.finished(0), i < 116 ? -1 : 1);
                Check.due("finished(1) after " + i + " moves", court.finished(1), -1);
            }
            court.move(court.bestFrom(), court.bestTo());
        }
        places("best moves of 0 and 1", court, 1, 0);
        Check.due("turn()", court.turn(), -1);
        Check.due("way(0)", court.way(0), 0);
        Check.due("way(1)", court.way(1), 0);
    }

    private static void noSuchPlace() {
        for (HopperCourt court : new HopperCourt[] {new HopperCourt(), Games.at(63, new int[0])}) {
            for (int place : new int[] {-1, 6, 7, Integer.MIN_VALUE, Integer.MAX_VALUE}) {
                Check.throwsBounds("finished(" + place + ")", () -> court.finished(place));
            }
            places("nobody yet", court);
        }
    }
}
