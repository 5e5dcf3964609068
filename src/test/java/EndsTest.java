/** Promises 14 to 16: ends, endAt and moves. */
final class EndsTest {
    private static final int[] NO_CELLS = {-1, 121, 500, Integer.MIN_VALUE, Integer.MAX_VALUE};

    public static void main(String[] args) {
        theFirstMoves();
        endsRiseAndAreAllOfThem();
        campsAndTheGoal();
        onlyThePlayerOnTurn();
        theFirstAndTheLastCell();
        theFirstAndTheLastEnd();
        movesOfTheFirstAndTheLastCellCount();
        noSuchCellOrEnd();
        Check.end();
    }

    private static void ends(String name, HopperCourt court, int from, int... want) {
        Check.due(name + ": ends(" + from + ")", court.ends(from), want.length);
        for (int k = 0; k < want.length; k++) {
            int index = k;
            String got = Check.outcome(() -> court.endAt(from, index));
            Check.due(name + ": endAt(" + from + ", " + k + ")", got, Integer.toString(want[k]));
        }
        Check.throwsBounds(name + ": endAt behind the last", () -> court.endAt(from, want.length));
    }

    private static void theFirstMoves() {
        HopperCourt court = Games.at(9, new int[0]);
        ends("first", court, 0);
        ends("first", court, 3, 14, 16);
        ends("first", court, 4, 15, 17);
        ends("first", court, 5, 16, 18);
        ends("first", court, 6, 14, 15);
        ends("first", court, 9, 17, 18);
        Check.due("moves()", court.moves(), 14);
    }

    private static void endsRiseAndAreAllOfThem() {
        int sum = 0;
        for (int from = 0; from < 121; from++) {
            HopperCourt court = Games.at(9, Games.CROSSED_CHAINS);
            int count = 0;
            for (int to = 0; to < 121; to++) {
                if (court.hops(from, to) != -1) {
                    Check.due("endAt(" + from + ", " + count + ")", court.endAt(from, count), to);
                    count++;
                }
            }
            Check.due("ends(" + from + ")", court.ends(from), count);
            sum += count;
        }
        Check.due("the ends of all cells", sum, 58);
        Check.due("moves()", Games.at(9, Games.CROSSED_CHAINS).moves(), 58);
    }

    private static void campsAndTheGoal() {
        HopperCourt left = Games.at(9, new int[] {9, 18, 114, 106});
        ends("beside the camp 1", left, 18, 9, 17, 30, 31);
        HopperCourt exchanged = Games.at(11, Games.EXCHANGED);
        Games.play(exchanged, 20, 18, 113, 104);
        ends("in the goal", exchanged, 114, 113);
        HopperCourt through = Games.at(11, Games.THROUGH_A_CAMP);
        int in = 0;
        for (int k = 0; k < through.ends(5); k++) {
            in += through.campOf(through.endAt(5, k)) == 1 ? 1 : 0;
        }
        Check.due("ends of 5 in the camp 1, through which its chain goes", in, 0);
        Check.due("hops(5, 43)", through.hops(5, 43), 3);
    }

    private static void onlyThePlayerOnTurn() {
        HopperCourt court = Games.at(9, new int[0]);
        ends("not on turn", court, 114);
        ends("empty", court, 60);
        Games.play(court, 6, 14);
        ends("now on turn", court, 114, 105, 106);
        ends("no more on turn", court, 14);
        HopperCourt over = Games.over();
        for (int from = 0; from < 121; from++) {
            Check.due("ends(" + from + ") when it is over", over.ends(from), 0);
        }
        Check.due("moves() when it is over", over.moves(), 0);
    }

    private static void noSuchCellOrEnd() {
        for (HopperCourt court : new HopperCourt[] {new HopperCourt(), Games.at(9, new int[0])}) {
            for (int cell : NO_CELLS) {
                Check.throwsBounds("ends(" + cell + ")", () -> court.ends(cell));
                Check.throwsBounds("endAt(" + cell + ", 0)", () -> court.endAt(cell, 0));
                Check.throwsBounds("endAt(6, " + (cell == 121 ? 2 : cell) + ")",
                        () -> court.endAt(6, cell == 121 ? 2 : cell));
            }
        }
    }

    private static void theFirstAndTheLastCell() {
        ends("the top", Games.at(9, Games.TWO_CHAINS), 0, 3, 5, 16);
        ends("the foot", Games.at(9, new int[] {6, 14, 115, 102, 14, 6}), 120, 104, 115);
        HopperCourt court = Games.at(9, new int[0]);
        ends("a marble of player 3", court, 120);
        for (int cell : new int[] {-1, 121}) {
            Check.throwsBounds("ends(" + cell + ")", () -> court.ends(cell));
            Check.throwsBounds("endAt(" + cell + ", 0)", () -> court.endAt(cell, 0));
        }
    }

    private static void theFirstAndTheLastEnd() {
        HopperCourt court = Games.at(9, new int[0]);
        Check.throwsBounds("endAt(6, -1)", () -> court.endAt(6, -1));
        Check.due("endAt(6, 0)", Check.outcome(() -> court.endAt(6, 0)), "14");
        Check.due("endAt(6, 1), the last", Check.outcome(() -> court.endAt(6, 1)), "15");
        Check.throwsBounds("endAt(6, 2)", () -> court.endAt(6, 2));
        Check.throwsBounds("endAt(6, 121)", () -> court.endAt(6, 121));
        Check.throwsBounds("endAt(0, 0), a marble without a move", () -> court.endAt(0, 0));
        Check.throwsBounds("endAt(60, 0), an empty cell", () -> court.endAt(60, 0));
        Check.throwsBounds("endAt(114, 0), not on turn", () -> court.endAt(114, 0));
        HopperCourt over = Games.over();
        Check.throwsBounds("endAt(7, 0) when it is over", () -> over.endAt(7, 0));
    }

    /** One move is left to the player on turn, of a marble on 0 or 120. */
    private static void movesOfTheFirstAndTheLastCellCount() {
        HopperCourt top = Games.at(9, Games.SHUT_IN);
        Check.due("moves() of one without a move", top.moves(), 0);
        top.pass();
        Games.play(top, 5, 4);
        Check.due("moves()", top.moves(), 1);
        ends("the last move", top, 0, 5);
        HopperCourt foot = Games.at(9, Games.shutInBelow());
        Check.due("moves() of one without a move", foot.moves(), 0);
        foot.pass();
        Games.play(foot, 115, 116);
        Check.due("moves()", foot.moves(), 1);
        ends("the last move", foot, 120, 115);
    }
}
