/** Promises 12 and 13: turn and made. */
final class TurnTest {
    public static void main(String[] args) {
        turnsGoByRisingNumbersAndRound();
        finishedPlayersAreLeftOut();
        lonePlayersGoOnAlone();
        whoIsOutIsSkipped();
        behindTheHighestComesTheLowest();
        nobodyIsOnTurnInNoGame();
        madeGoesFromNoneToThreeHundred();
        Check.end();
    }

    private static void turnsGoByRisingNumbersAndRound() {
        for (int set = 0; set < 64; set++) {
            if (Integer.bitCount(set) < 2) {
                continue;
            }
            HopperCourt court = Games.at(set, new int[0]);
            int made = 0;
            for (int round = 0; round < 3; round++) {
                for (int player = 0; player < 6; player++) {
                    if ((set & 1 << player) != 0) {
                        String name = "begin(" + set + "), round " + round + ": ";
                        Check.due(name + "turn()", court.turn(), player);
                        Check.due(name + "made()", court.made(), made);
                        court.move(court.bestFrom(), court.bestTo());
                        made++;
                    }
                }
            }
        }
    }

    private static void finishedPlayersAreLeftOut() {
        HopperCourt court = Games.at(11, Games.EXCHANGED);
        Check.due("made()", court.made(), 22);
        court.setFill(1);
        Games.play(court, 20, 18);
        Check.due("turn(): 0 and 3 have finished", court.turn(), 1);
        Check.due("made()", court.made(), 23);
        Games.play(court, 18, 17);
        Check.due("turn() again", court.turn(), 1);
        Check.due("made() again", court.made(), 24);
    }

    /** Player 0 finishes by its own move, and 3 by it too; 1 plays to its end, then it is over. */
    private static void lonePlayersGoOnAlone() {
        HopperCourt court = Games.at(11, Games.EXCHANGED);
        court.undo();
        court.setFill(1);
        Check.due("turn()", court.turn(), 0);
        Games.play(court, 106, 114);
        Check.due("turn() behind the finish by 0", court.turn(), 1);
        for (int i = 0; i < 150 && court.turn() == 1; i++) {
            court.move(court.bestFrom(), court.bestTo());
        }
        Check.due("turn() when all have finished", court.turn(), -1);
        Check.due("finished(2)", court.finished(2), 1);
        Check.due("moves() when all have finished", court.moves(), 0);
        Check.due("bestFrom() when all have finished", court.bestFrom(), -1);
        Check.throwsState("move(60, 61) when all have finished", () -> court.move(60, 61));
    }

    private static void whoIsOutIsSkipped() {
        HopperCourt court = Games.at(11, Games.EXCHANGED_AND_LEFT);
        court.setPatience(1);
        Games.play(court, 51, 50);
        Check.due("turn(): 3 and 0 are out", court.turn(), 1);
        Check.due("made()", court.made(), 32);
    }

    private static void behindTheHighestComesTheLowest() {
        HopperCourt court = Games.at(33, new int[] {6, 14});
        Check.due("turn() behind 0", court.turn(), 5);
        Games.play(court, 36, 37);
        Check.due("turn() behind 5", court.turn(), 0);
        HopperCourt upper = Games.at(48, new int[] {100, 102});
        Check.due("turn() behind 4", upper.turn(), 5);
        Games.play(upper, 36, 37);
        Check.due("turn() behind 5, without 0 to 3", upper.turn(), 4);
    }

    private static void nobodyIsOnTurnInNoGame() {
        HopperCourt court = new HopperCourt();
        Check.due("turn() in no game", court.turn(), -1);
        Check.due("made() in no game", court.made(), 0);
        court.setFill(1);
        court.setPatience(1);
        Check.due("turn() in no game", court.turn(), -1);
        Check.due("turn() when it is over", Games.over().turn(), -1);
        Check.due("made() when it is over", Games.over().made(), 2);
    }

    private static void madeGoesFromNoneToThreeHundred() {
        HopperCourt court = Games.at(63, new int[0]);
        int[] pairs = Games.threeHundred();
        for (int made = 0; made < 300; made++) {
            if (made < 10 || made > 290) {
                Check.due("made()", court.made(), made);
            }
            court.move(pairs[2 * made], pairs[2 * made + 1]);
        }
        Check.due("made()", court.made(), 300);
        Check.throwsState("the 301st move", () -> court.move(6, 14));
        Check.due("made() after a refused move", court.made(), 300);
        Check.due("turn() after 300 moves", court.turn(), 0);
        court.begin(63);
        Check.due("made() in a new game", court.made(), 0);
        HopperCourt passed = Games.at(9, Games.SHUT_IN);
        passed.pass();
        Check.due("made(), a pass counted", passed.made(), 81);
    }
}
