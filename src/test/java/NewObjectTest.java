/** Promise 1: a new object. */
final class NewObjectTest {
    public static void main(String[] args) {
        boardIsEmptyAndNobodyPlays();
        queriesFindNoMove();
        gameCallsAreRefused();
        settingsStartAtTenAndZero();
        Check.due("NONE", HopperCourt.NONE, -1);
        Check.end();
    }

    private static void boardIsEmptyAndNobodyPlays() {
        HopperCourt court = new HopperCourt();
        for (int cell = 0; cell < 121; cell++) {
            Check.due("at(" + cell + ")", court.at(cell), -1);
        }
        Check.due("turn()", court.turn(), -1);
        Check.due("made()", court.made(), 0);
        for (int player = 0; player < 6; player++) {
            Check.due("way(" + player + ")", court.way(player), -1);
            Check.due("isOut(" + player + ")", court.isOut(player), false);
            Check.due("finished(" + player + ")", court.finished(player), -1);
        }
    }

    private static void queriesFindNoMove() {
        HopperCourt court = new HopperCourt();
        for (int cell = 0; cell < 121; cell++) {
            Check.due("ends(" + cell + ")", court.ends(cell), 0);
        }
        Check.due("moves()", court.moves(), 0);
        Check.due("bestFrom()", court.bestFrom(), -1);
        Check.due("bestTo()", court.bestTo(), -1);
        Check.due("hops(6, 14)", court.hops(6, 14), -1);
        Check.due("chainAt(3, 14, 0)", court.chainAt(3, 14, 0), -1);
        Check.throwsBounds("endAt(6, 0)", () -> court.endAt(6, 0));
    }

    private static void gameCallsAreRefused() {
        HopperCourt court = new HopperCourt();
        Check.throwsState("move(6, 14)", () -> court.move(6, 14));
        Check.throwsState("move(6, 6), which is no move either", () -> court.move(6, 6));
        Check.throwsBounds("move(6, 121)", () -> court.move(6, 121));
        Check.throwsBounds("move(-1, 6)", () -> court.move(-1, 6));
        Check.throwsState("undo()", court::undo);
        Check.throwsState("pass()", () -> {
            court.pass();
            return 0;
        });
    }

    private static void settingsStartAtTenAndZero() {
        HopperCourt court = new HopperCourt();
        Check.due("setFill(10)", court.setFill(10), 10);
        Check.due("setPatience(0)", court.setPatience(0), 0);
    }
}
