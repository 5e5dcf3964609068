/** Promises 14 to 16: ends, endAt and moves. */
final class EndsTest {
    private static final int[] NO_CELLS = {-1, 121, 500, Integer.MIN_VALUE, Integer.MAX_VALUE};

    public static void main(String[] args) {
        theFirstMoves();
        endsRiseAndAreAllOfThem();
        campsAndTheGoal();
        onlyThePlayerOnTurn();
        noSuchCellOrEnd();
        Check.end();
    }

    private static void ends(String name, HopperCourt court, int from, int... want) {
        Check.due(name + ": ends(" + from + ")", court.ends(from), want.length);
        for (int k = 0; k < want.length; k++) {
            int index = k;
            String got = Check.outcome(() -> court.endAt(from, index));
            Check.due(name + ": endAt(" + from + ", " + k + ")", got, Integer.toString(want[k]));
        }
        Check.throwsBounds(name + ": endAt behind the last", () -> court.endAt(from, want.length));
    }

    private static void theFirstMoves() {
        HopperCourt court = Games.at(9, new int[0]);
        ends("first", court, 0);
        ends("first", court, 3, 14, 16);
        ends("first", court, 4, 15, 17);
        ends("first", court, 5, 16, 18);
        ends("first", court, 6, 14, 15);
        ends("first", court, 9, 17, 18);
        Check.due("moves()", court.moves(), 14);
    }

    private static void endsRiseAndAreAllOfThem() {
        int sum = 0;
        for (int from = 0; from < 121; from++) {
            HopperCourt court = Games.at(9, Games.CROSSED_CHAINS);
            int count = 0;
            for (int to = 0; to < 121; to++) {
                if (court.hops(from, to) != -1) {
                    Check.due("endAt(" + from + ", " + count + ")", court.endAt(from, count), to);
                    count++;
                }
            }
            Check.due("ends(" + from + ")", court.ends(from), count);
            sum += count;
        }
        Check.due("the ends of all cells", sum, 58);
        Check.due("moves()", Games.at(9, Games.CROSSED_CHAINS).moves(), 58);
    }

    private static void campsAndTheGoal() {
        HopperCourt left = Games.at(9, new int[] {9, 18, 114, 106});
        ends("beside the camp 1", left, 18, 9, 17, 30, 31);
        HopperCourt exchanged = Games.at(11, Games.EXCHANGED);
        Games.play(exchanged, 20, 18, 113, 104);
        ends("in the goal", exchanged, 114, 113);
        HopperCourt through = Games.at(11, Games.THROUGH_A_CAMP);
        int in = 0;
        for (int k = 0; k < through.ends(5); k++) {
            in += through.campOf(through.endAt(5, k)) == 1 ? 1 : 0;
        }
        Check.due("ends of 5 in the camp 1, through which its chain goes", in, 0);
        Check.due("hops(5, 43)", through.hops(5, 43), 3);
    }

    private static void onlyThePlayerOnTurn() {
        HopperCourt court = Games.at(9, new int[0]);
        ends("not on turn", court, 114);
        ends("empty", court, 60);
        Games.play(court, 6, 14);
        ends("now on turn", court, 114, 105, 106);
        ends("no more on turn", court, 14);
        HopperCourt over = Games.over();
        for (int from = 0; from < 121; from++) {
            Check.due("ends(" + from + ") when it is over", over.ends(from), 0);
        }
        Check.due("moves() when it is over", over.moves(), 0);
    }

    private static void noSuchCellOrEnd() {
        for (HopperCourt court : new HopperCourt[] {new HopperCourt(), Games.at(9, new int[0])}) {
            for (int cell : NO_CELLS) {
                Check.throwsBounds("ends(" + cell + ")", () -> court.ends(cell));
                Check.throwsBounds("endAt(" + cell + ", 0)", () -> court.endAt(cell, 0));
                Check.throwsBounds("endAt(6, " + (cell == 121 ? 2 : cell) + ")",
                        () -> court.endAt(6, cell == 121 ? 2 : cell));
            }
        }
    }
}
