/** "An object is used for at most 512 calls after it has been made": the 512th answers like the first. */
final class CallsTest {
    private static final int MOST_CALLS = 512;

    public static void main(String[] args) {
        threeHundredMovesAndTwoHundredUndone();
        movesAndUndoInTurns();
        manyGames();
        eachQueryOnAndOn();
        manyBestMoves();
        manyChains();
        manyWays();
        manyRefusedCalls();
        manySettings();
        Check.end();
    }

    /** The players 1 and 4 hop, the others step. */
    private static void threeHundredMovesAndTwoHundredUndone() {
        HopperCourt court = Games.at(63, Games.threeHundred());
        int calls = 301;
        for (int left = 299; left >= 100; left--) {
            Check.due("undo()", court.undo(), left);
            calls++;
        }
        int[] pairs = Games.threeHundred();
        for (int made = 100; calls < MOST_CALLS - 1; made++) {
            int hops = made % 3 == 1 ? 1 : 0;
            Check.due("move " + made + " again", court.move(pairs[2 * made], pairs[2 * made + 1]), hops);
            calls++;
        }
        Check.due("made(), the call 512", court.made(), 110);
    }

    private static void movesAndUndoInTurns() {
        HopperCourt court = Games.at(9, new int[0]);
        for (int i = 0; i < 255; i++) {
            Check.due("move(6, 14)", court.move(6, 14), 0);
            Check.due("undo()", court.undo(), 0);
        }
        Check.due("move(3, 14), the call 512", court.move(3, 14), 1);
    }

    private static void manyGames() {
        HopperCourt court = new HopperCourt();
        for (int i = 0; i < 170; i++) {
            court.begin(9);
            court.move(6, 14);
            court.begin(63);
        }
        Check.due("moves()", court.moves(), 14);
        Check.due("at(120), the call 512", court.at(120), 3);
    }

    /** A query changes nothing, so all calls behind the first move answer alike. */
    private static void eachQueryOnAndOn() {
        onAndOn("at(114)", court -> court.at(114), 3);
        onAndOn("cellAt(8, 12)", court -> court.cellAt(8, 12), 60);
        onAndOn("campOf(114)", court -> court.campOf(114), 3);
        onAndOn("distance(0, 120)", court -> court.distance(0, 120), 16);
        onAndOn("turn()", HopperCourt::turn, 3);
        onAndOn("made()", HopperCourt::made, 1);
        onAndOn("ends(114)", court -> court.ends(114), 2);
        onAndOn("endAt(114, 1)", court -> court.endAt(114, 1), 106);
        onAndOn("moves()", HopperCourt::moves, 14);
        onAndOn("chainAt(115, 102, 0)", court -> court.chainAt(115, 102, 0), 102);
        onAndOn("hops(115, 102)", court -> court.hops(115, 102), 1);
        onAndOn("finished(0)", court -> court.finished(0), -1);
        onAndOn("isOut(0)", court -> court.isOut(0) ? 1 : 0, 0);
        onAndOn("way(0)", court -> court.way(0), 119);
        onAndOn("bestFrom()", HopperCourt::bestFrom, 115);
        onAndOn("bestTo()", HopperCourt::bestTo, 102);
    }

    private static void onAndOn(String name, RefusedTest.Action query, int want) {
        HopperCourt court = Games.at(9, new int[] {6, 14});
        for (int calls = 2; calls < MOST_CALLS; calls++) {
            Check.due(name + ", the call " + (calls + 1), query.on(court), want);
        }
    }

    private static void manyBestMoves() {
        HopperCourt court = Games.at(9, Games.OUT_AND_IN);
        for (int calls = 17; calls < MOST_CALLS; calls++) {
            if (calls % 2 == 1) {
                Check.due("bestFrom()", court.bestFrom(), 59);
            } else {
                Check.due("bestTo()", court.bestTo(), 4);
            }
        }
    }

    private static void manyChains() {
        HopperCourt court = Games.at(9, Games.CROSSED_CHAINS);
        int[] chain = {19, 17, 4, -1};
        for (int calls = 16; calls < MOST_CALLS; calls++) {
            Check.due("chainAt(42, 4, " + calls % 4 + ")", court.chainAt(42, 4, calls % 4), chain[calls % 4]);
        }
    }

    private static void manyWays() {
        HopperCourt court = Games.at(9, Games.SHUT_IN);
        for (int calls = 82; calls < MOST_CALLS; calls++) {
            Check.due("way(0)", court.way(0), 16);
        }
    }

    private static void manyRefusedCalls() {
        HopperCourt court = Games.at(9, new int[] {6, 14});
        for (int i = 0; i < 127; i++) {
            Check.throwsArgument("begin(1)", () -> {
                court.begin(1);
                return 0;
            });
            Check.throwsArgument("move(14, 6)", () -> court.move(14, 6));
            Check.throwsBounds("at(121)", () -> court.at(121));
            Check.throwsState("pass()", () -> {
                court.pass();
                return 0;
            });
        }
        Check.due("made()", court.made(), 1);
        Check.due("move(114, 106), the call 512", court.move(114, 106), 0);
    }

    private static void manySettings() {
        HopperCourt court = new HopperCourt();
        int fill = 10;
        int patience = 0;
        for (int i = 1; i <= MOST_CALLS / 2; i++) {
            Check.due("setFill", court.setFill(1 + i % 10), fill);
            Check.due("setPatience", court.setPatience(i % 101), patience);
            fill = 1 + i % 10;
            patience = i % 101;
        }
    }
}
