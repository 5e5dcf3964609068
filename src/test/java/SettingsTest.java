/** Promises 3 and 4: setFill and setPatience. */
final class SettingsTest {
    private static final int[] FAR = {-1000, 1000, Integer.MIN_VALUE, Integer.MAX_VALUE};

    public static void main(String[] args) {
        fillReturnsTheOneBefore();
        patienceReturnsTheOneBefore();
        fillIsLookedAtByTheNextMove();
        patienceIsLookedAtByTheNextTurn();
        aFillThatIsTakenBackIsNotLookedAt();
        aPatienceThatIsTakenBackIsNotLookedAt();
        theLeastAndTheMostThatAreAllowed();
        undoLeavesTheSettings();
        Check.end();
    }

    private static void fillReturnsTheOneBefore() {
        HopperCourt court = new HopperCourt();
        int before = 10;
        for (int fill = -3; fill <= 14; fill++) {
            int f = fill;
            if (fill >= 1 && fill <= 10) {
                Check.due("setFill(" + fill + ")", court.setFill(fill), before);
                before = fill;
            } else {
                Check.throwsArgument("setFill(" + fill + ")", () -> court.setFill(f));
            }
        }
        for (int fill : FAR) {
            Check.throwsArgument("setFill(" + fill + ")", () -> court.setFill(fill));
        }
        Check.due("setFill(3) after refused ones", court.setFill(3), 10);
        Check.due("setPatience(0), which no fill changes", court.setPatience(0), 0);
    }

    private static void patienceReturnsTheOneBefore() {
        HopperCourt court = new HopperCourt();
        int before = 0;
        for (int patience = -3; patience <= 104; patience++) {
            int p = patience;
            if (patience >= 0 && patience <= 100) {
                Check.due("setPatience(" + patience + ")", court.setPatience(patience), before);
                before = patience;
            } else {
                Check.throwsArgument("setPatience(" + patience + ")", () -> court.setPatience(p));
            }
        }
        for (int patience : FAR) {
            Check.throwsArgument("setPatience(" + patience + ")", () -> court.setPatience(patience));
        }
        Check.due("setPatience(3) after refused ones", court.setPatience(3), 100);
        Check.due("setFill(10), which no patience changes", court.setFill(10), 10);
    }

    private static void fillIsLookedAtByTheNextMove() {
        HopperCourt court = Games.at(11, Games.EXCHANGED);
        court.setFill(1);
        Check.due("finished(0) right after setFill", court.finished(0), -1);
        Games.play(court, 20, 18);
        Check.due("finished(0) after the next move", court.finished(0), 0);
        court.setFill(10);
        Check.due("finished(0) when the fill has risen", court.finished(0), 0);
        Games.play(court, 18, 17);
        Check.due("finished(0) a move later", court.finished(0), 0);
    }

    private static void patienceIsLookedAtByTheNextTurn() {
        HopperCourt court = Games.at(9, new int[] {6, 14, 114, 106});
        court.setPatience(1);
        Check.due("turn() right after setPatience", court.turn(), 0);
        Check.due("isOut(0) right after setPatience", court.isOut(0), false);
        Games.play(court, 14, 27);
        Check.due("isOut(3) when it is to be on turn", court.isOut(3), true);
        court.setPatience(0);
        Check.due("isOut(3) stays with patience 0", court.isOut(3), true);
    }

    private static void undoLeavesTheSettings() {
        HopperCourt court = Games.at(9, new int[] {6, 14});
        court.setFill(7);
        court.setPatience(70);
        court.undo();
        Check.due("setFill(1) after undo", court.setFill(1), 7);
        Check.due("setPatience(1) after undo", court.setPatience(1), 70);
    }

    private static void aFillThatIsTakenBackIsNotLookedAt() {
        HopperCourt court = Games.at(11, Games.EXCHANGED);
        court.setFill(1);
        court.setFill(2);
        Games.play(court, 20, 18);
        Check.due("finished(0): the fill was 2 at the end of the move", court.finished(0), -1);
        court.setFill(1);
        Games.play(court, 113, 104);
        Check.due("finished(0): the goal of 0 is not full now", court.finished(0), 3);
        Check.due("finished(1)", court.finished(1), -1);
    }

    private static void aPatienceThatIsTakenBackIsNotLookedAt() {
        HopperCourt court = Games.at(9, new int[] {6, 14, 114, 106});
        court.setPatience(1);
        court.setPatience(2);
        Games.play(court, 14, 6);
        Check.due("turn(): 3 has made 1 move of 2", court.turn(), 3);
        court.setPatience(1);
        court.setPatience(0);
        Games.play(court, 106, 114);
        Check.due("turn(): nobody is out", court.turn(), 0);
    }

    private static void theLeastAndTheMostThatAreAllowed() {
        HopperCourt court = new HopperCourt();
        Check.throwsArgument("setFill(0)", () -> court.setFill(0));
        Check.due("setFill(1)", Check.outcome(() -> court.setFill(1)), "10");
        Check.throwsArgument("setFill(11)", () -> court.setFill(11));
        Check.due("setFill(10)", Check.outcome(() -> court.setFill(10)), "1");
        Check.throwsArgument("setPatience(101)", () -> court.setPatience(101));
        Check.due("setPatience(100)", Check.outcome(() -> court.setPatience(100)), "0");
        Check.throwsArgument("setPatience(-1)", () -> court.setPatience(-1));
        Check.due("setPatience(0)", Check.outcome(() -> court.setPatience(0)), "100");
    }
}
