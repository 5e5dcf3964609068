import java.util.Arrays;

/** Promise 2: begin. */
final class BeginTest {
    public static void main(String[] args) {
        for (int set = 0; set < 64; set++) {
            if (Integer.bitCount(set) >= 2) {
                campsAreFilled(set);
            } else {
                isRefused(set);
            }
        }
        int[] wrong = {-1, -2, 64, 65, 67, 127, 128, 1 << 30, (1 << 30) + 3,
            Integer.MIN_VALUE, Integer.MIN_VALUE + 3, Integer.MAX_VALUE};
        for (int set : wrong) {
            isRefused(set);
        }
        aNewGameForgetsTheOldOne();
        oneCampIsTooFewTwoAreEnough();
        sixCampsAreAllASeventhIsNone();
        aGameThatIsOverIsBegunAgain();
        noMovesOfTheOldGameCount();
        theFirstOnTurnIsNotOut();
        fillAndPatienceStay();
        Check.end();
    }

    private static Check.Call begin(HopperCourt court, int set) {
        return () -> {
            court.begin(set);
            return 0;
        };
    }

    private static void campsAreFilled(int set) {
        HopperCourt court = new HopperCourt();
        court.begin(set);
        String name = "begin(" + set + "): ";
        for (int cell = 0; cell < 121; cell++) {
            int camp = court.campOf(cell);
            boolean has = camp != -1 && (set & 1 << camp) != 0;
            Check.due(name + "at(" + cell + ")", court.at(cell), has ? camp : -1);
        }
        Check.due(name + "turn()", court.turn(), Integer.numberOfTrailingZeros(set));
        Check.due(name + "made()", court.made(), 0);
        Check.due(name + "moves()", court.moves(), 14);
        for (int player = 0; player < 6; player++) {
            boolean plays = (set & 1 << player) != 0;
            Check.due(name + "way(" + player + ")", court.way(player), plays ? 120 : -1);
            Check.due(name + "isOut(" + player + ")", court.isOut(player), false);
            Check.due(name + "finished(" + player + ")", court.finished(player), -1);
        }
    }

    private static void isRefused(int set) {
        HopperCourt fresh = new HopperCourt();
        Check.throwsArgument("begin(" + set + ")", begin(fresh, set));
        Check.due("turn() after a refused begin", fresh.turn(), -1);
        Check.throwsState("move(6, 14) after a refused begin", () -> fresh.move(6, 14));
        HopperCourt playing = Games.at(9, new int[] {6, 14});
        String before = Games.picture(playing);
        Check.throwsArgument("begin(" + set + ")", begin(playing, set));
        Check.due("the game after a refused begin", Games.picture(playing), before);
        Check.due("undo() after a refused begin", playing.undo(), 0);
    }

    private static void aNewGameForgetsTheOldOne() {
        HopperCourt court = Games.at(11, Games.EXCHANGED);
        court.setFill(1);
        Games.play(court, 20, 18);
        Check.due("finished(1) before", court.finished(1), 3);
        court.setPatience(1);
        Games.play(court, 18, 17);
        Check.due("isOut(1) before", court.isOut(1), true);
        court.begin(11);
        String fresh = Games.picture(Games.at(11, new int[0]));
        Check.due("a new game of the same players", Games.picture(court), fresh);
        Check.throwsState("undo() in a new game", court::undo);
        court.begin(54);
        Check.due("a new game of others", Games.picture(court), Games.picture(Games.at(54, new int[0])));
        Check.due("way(0) of one who plays no more", court.way(0), -1);
        court.begin(9);
        Games.play(court, 6, 14);
        Check.due("isOut(0): no moves of the old game count", court.isOut(0), false);
        Check.due("turn(): no moves of the old game count", court.turn(), 3);
    }

    private static void fillAndPatienceStay() {
        HopperCourt court = new HopperCourt();
        court.setFill(4);
        court.setPatience(7);
        court.begin(9);
        Check.due("setFill(5) after begin", court.setFill(5), 4);
        Check.due("setPatience(8) after begin", court.setPatience(8), 7);
    }

    private static void oneCampIsTooFewTwoAreEnough() {
        isRefused(0);
        for (int camp = 0; camp < 6; camp++) {
            isRefused(1 << camp);
            for (int other = camp + 1; other < 6; other++) {
                int set = 1 << camp | 1 << other;
                HopperCourt court = new HopperCourt();
                Check.due("begin(" + set + ")", Check.outcome(begin(court, set)), "0");
                Check.due("turn() after begin(" + set + ")", court.turn(), camp);
            }
        }
    }

    private static void sixCampsAreAllASeventhIsNone() {
        HopperCourt court = new HopperCourt();
        Check.due("begin(63)", Check.outcome(begin(court, 63)), "0");
        Check.due("begin(3), the least set", Check.outcome(begin(court, 3)), "0");
        for (int bit = 6; bit < 32; bit++) {
            isRefused(1 << bit);
            isRefused(1 << bit | 1);
            isRefused(1 << bit | 3);
            isRefused(1 << bit | 63);
        }
    }

    private static void aGameThatIsOverIsBegunAgain() {
        HopperCourt court = Games.over();
        court.begin(3);
        Check.due("turn()", court.turn(), 0);
        Check.due("isOut(0)", court.isOut(0), false);
        Check.due("isOut(1)", court.isOut(1), false);
        Check.due("made()", court.made(), 0);
        Check.due("move(6, 14)", court.move(6, 14), 0);
    }

    /** Two moves of each of six players, then one and another one in a new game, with patience 2. */
    private static void noMovesOfTheOldGameCount() {
        HopperCourt court = Games.at(63, Arrays.copyOf(Games.threeHundred(), 24));
        court.begin(63);
        court.setPatience(2);
        Games.play(court, Arrays.copyOf(Games.threeHundred(), 12));
        for (int player = 0; player < 6; player++) {
            Check.due("isOut(" + player + ") with one move", court.isOut(player), false);
        }
        Check.due("turn()", court.turn(), 0);
        Games.play(court, Arrays.copyOfRange(Games.threeHundred(), 12, 24));
        for (int player = 0; player < 6; player++) {
            Check.due("isOut(" + player + ") with two moves", court.isOut(player), true);
        }
        Check.due("turn()", court.turn(), -1);
    }

    private static void theFirstOnTurnIsNotOut() {
        HopperCourt court = new HopperCourt();
        court.setPatience(1);
        court.begin(48);
        Check.due("turn() with patience 1", court.turn(), 4);
        Check.due("isOut(4) with patience 1", court.isOut(4), false);
    }
}
