import java.util.Arrays;

/** Promise 20: isOut. */
final class OutTest {
    public static void main(String[] args) {
        patienceTellsWhen();
        patienceZeroPutsNobodyOut();
        aPlayerWithoutMarblesAtHomeStaysIn();
        oneMoveLessOneMoreAndAsMany();
        oneMarbleAtHomeIsEnough();
        anothersMarbleAtHomeDoesNotCount();
        whoIsNotToBeOnTurnIsNotOut();
        whoHasFinishedIsNotOut();
        allSixAreOut();
        theMarblesStay();
        othersGoOn();
        noSuchPlayer();
        Check.end();
    }

    private static void outs(String name, HopperCourt court, int... players) {
        int set = 0;
        for (int player : players) {
            set |= 1 << player;
        }
        for (int player = 0; player < 6; player++) {
            Check.due(name + ": isOut(" + player + ")", court.isOut(player), (set & 1 << player) != 0);
        }
    }

    private static void patienceTellsWhen() {
        for (int patience = 1; patience <= 100; patience += patience < 5 ? 1 : 19) {
            HopperCourt court = new HopperCourt();
            court.setPatience(patience);
            court.begin(9);
            for (int moves = 0; moves < patience; moves++) {
                if (moves == patience - 1) {
                    outs("patience " + patience + ", each with one less", court);
                    Check.due("turn()", court.turn(), 0);
                }
                boolean forth = moves % 2 == 0;
                Games.play(court, forth ? 6 : 14, forth ? 14 : 6);
                Games.play(court, forth ? 114 : 106, forth ? 106 : 114);
            }
            outs("patience " + patience + " used up", court, 0, 3);
            Check.due("turn()", court.turn(), -1);
            Check.due("way(0) of one who is out", court.way(0) != -1, true);
            Check.due("at(7): its marbles stay", court.at(7), 0);
        }
    }

    private static void patienceZeroPutsNobodyOut() {
        HopperCourt court = Games.at(9, new int[0]);
        for (int i = 0; i < 60; i++) {
            Games.play(court, 6, 14, 114, 106, 14, 6, 106, 114);
        }
        outs("patience 0", court);
        Check.due("turn()", court.turn(), 0);
    }

    private static void aPlayerWithoutMarblesAtHomeStaysIn() {
        HopperCourt court = Games.at(11, Games.EXCHANGED_AND_LEFT);
        court.setPatience(10);
        Games.play(court, 51, 50);
        outs("1 has left its camp, 3 has made 10 moves, 0 has made 11", court, 0, 3);
        Check.due("turn()", court.turn(), 1);
        Games.play(court, 50, 51);
        outs("1 still has no marble at home", court, 0, 3);
        Check.due("turn()", court.turn(), 1);
        Games.play(court, 54, 44);
        outs("1 is back at home", court, 0, 1, 3);
        Check.due("turn()", court.turn(), -1);
        HopperCourt later = Games.at(11, Games.EXCHANGED_AND_LEFT);
        later.setPatience(11);
        Games.play(later, 51, 50);
        outs("3 has made 10 moves of 11", later);
        Check.due("turn()", later.turn(), 3);
    }

    private static void othersGoOn() {
        HopperCourt court = Games.at(9, new int[] {6, 14, 114, 106});
        court.setPatience(1);
        Games.play(court, 14, 27);
        outs("both", court, 0, 3);
        Check.due("turn()", court.turn(), -1);
        Check.due("finished(0)", court.finished(0), -1);
        HopperCourt first = Games.at(7, new int[] {6, 14});
        first.setPatience(1);
        Games.play(first, 20, 18);
        outs("2 has made no move yet", first);
        Check.due("turn()", first.turn(), 2);
        Games.play(first, 84, 83);
        outs("all of three", first, 0, 1, 2);
    }

    private static void noSuchPlayer() {
        for (HopperCourt court : new HopperCourt[] {new HopperCourt(), Games.at(9, new int[0])}) {
            for (int player : new int[] {-1, 6, 7, 32, Integer.MIN_VALUE, Integer.MAX_VALUE}) {
                Check.throwsBounds("isOut(" + player + ")", () -> court.isOut(player) ? 1 : 0);
            }
            outs("nobody", court);
        }
    }

    /** Both players have made five moves when it is looked at. */
    private static void oneMoveLessOneMoreAndAsMany() {
        int[] five = {6, 14, 114, 106, 14, 6, 106, 114, 6, 14, 114, 106, 14, 6, 106, 114, 6, 14};
        for (int patience = 4; patience <= 6; patience++) {
            HopperCourt court = Games.at(9, five);
            court.setPatience(patience);
            Games.play(court, 114, 106);
            if (patience <= 5) {
                outs("five moves, patience " + patience, court, 0, 3);
                Check.due("turn()", court.turn(), -1);
            } else {
                outs("five moves, patience " + patience, court);
                Check.due("turn()", court.turn(), 0);
            }
        }
    }

    /** Player 1 has left its camp; the one on 54 goes home to 44, or farther out. */
    private static void oneMarbleAtHomeIsEnough() {
        HopperCourt court = Games.at(11, Games.EXCHANGED_AND_LEFT);
        Games.play(court, 54, 44);
        outs("patience 0", court);
        court.setPatience(1);
        Games.play(court, 113, 104);
        outs("one marble at home", court, 0, 1, 3);
        HopperCourt away = Games.at(11, Games.EXCHANGED_AND_LEFT);
        away.setPatience(1);
        Games.play(away, 54, 72);
        outs("no marble at home", away, 0, 3);
        Check.due("turn()", away.turn(), 1);
    }

    /** On 4, in the camp of player 0, lies a marble of 3; those of 0 have all left. */
    private static void anothersMarbleAtHomeDoesNotCount() {
        HopperCourt court = Games.at(9, Games.LEFT_TO_ANOTHER);
        Check.due("at(4)", court.at(4), 3);
        for (int cell = 0; cell < 10; cell++) {
            Check.due("at(" + cell + ") is 0", court.at(cell) == 0, false);
        }
        court.setPatience(1);
        Games.play(court, 51, 50);
        outs("only another's marble at home", court);
        Check.due("turn()", court.turn(), 0);
    }

    private static void whoIsNotToBeOnTurnIsNotOut() {
        HopperCourt court = Games.at(11, Games.EXCHANGED_AND_LEFT);
        court.setPatience(11);
        Games.play(court, 51, 50);
        outs("0 has made 11 moves, but 3 is on turn with 10", court);
        Check.due("turn()", court.turn(), 3);
        Games.play(court, 113, 104);
        outs("0 was to be on turn, and 1 is", court, 0);
        Check.due("turn()", court.turn(), 1);
        Games.play(court, 50, 51);
        outs("3 was to be on turn", court, 0, 3);
    }

    private static void whoHasFinishedIsNotOut() {
        HopperCourt court = Games.at(11, Games.EXCHANGED);
        court.setFill(1);
        Games.play(court, 20, 18);
        court.setPatience(1);
        Games.play(court, 18, 20);
        outs("0 and 3 have finished, and 1 is at home", court, 1);
        Check.due("turn()", court.turn(), -1);
        Check.due("finished(0)", court.finished(0), 0);
        Check.due("finished(1)", court.finished(1), 3);
    }

    private static void allSixAreOut() {
        HopperCourt court = Games.at(63, Arrays.copyOf(Games.threeHundred(), 10));
        court.setPatience(1);
        outs("ahead of the sixth move", court);
        Games.play(court, 36, 37);
        outs("behind the sixth move", court, 0, 1, 2, 3, 4, 5);
        Check.due("turn()", court.turn(), -1);
        Check.due("moves()", court.moves(), 0);
        for (int player = 0; player < 6; player++) {
            Check.due("finished(" + player + ")", court.finished(player), -1);
        }
        for (int player : new int[] {-1, 6}) {
            Check.throwsBounds("isOut(" + player + ")", () -> court.isOut(player) ? 1 : 0);
        }
    }

    private static void theMarblesStay() {
        HopperCourt court = Games.over();
        HopperCourt before = Games.at(3, new int[] {6, 14, 20, 18});
        for (int cell = 0; cell < 121; cell++) {
            Check.due("at(" + cell + ") of players who are out", court.at(cell), before.at(cell));
        }
    }
}
