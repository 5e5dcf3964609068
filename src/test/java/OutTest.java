/** Promise 20: isOut. */
final class OutTest {
    public static void main(String[] args) {
        patienceTellsWhen();
        patienceZeroPutsNobodyOut();
        aPlayerWithoutMarblesAtHomeStaysIn();
        othersGoOn();
        noSuchPlayer();
        Check.end();
    }

    private static void outs(String name, HopperCourt court, int... players) {
        int set = 0;
        for (int player : players) {
            set |= 1 << player;
        }
        for (int player = 0; player < 6; player++) {
            Check.due(name + ": isOut(" + player + ")", court.isOut(player), (set & 1 << player) != 0);
        }
    }

    private static void patienceTellsWhen() {
        for (int patience = 1; patience <= 100; patience += patience < 5 ? 1 : 19) {
            HopperCourt court = new HopperCourt();
            court.setPatience(patience);
            court.begin(9);
            for (int moves = 0; moves < patience; moves++) {
                if (moves == patience - 1) {
                    outs("patience " + patience + ", each with one less", court);
                    Check.due("turn()", court.turn(), 0);
                }
                boolean forth = moves % 2 == 0;
                Games.play(court, forth ? 6 : 14, forth ? 14 : 6);
                Games.play(court, forth ? 114 : 106, forth ? 106 : 114);
            }
            outs("patience " + patience + " used up", court, 0, 3);
            Check.due("turn()", court.turn(), -1);
            Check.due("way(0) of one who is out", court.way(0) != -1, true);
            Check.due("at(7): its marbles stay", court.at(7), 0);
        }
    }

    private static void patienceZeroPutsNobodyOut() {
        HopperCourt court = Games.at(9, new int[0]);
        for (int i = 0; i < 60; i++) {
            Games.play(court, 6, 14, 114, 106, 14, 6, 106, 114);
        }
        outs("patience 0", court);
        Check.due("turn()", court.turn(), 0);
    }

    private static void aPlayerWithoutMarblesAtHomeStaysIn() {
        HopperCourt court = Games.at(11, Games.EXCHANGED_AND_LEFT);
        court.setPatience(10);
        Games.play(court, 51, 50);
        outs("1 has left its camp, 3 has made 10 moves, 0 has made 11", court, 0, 3);
        Check.due("turn()", court.turn(), 1);
        Games.play(court, 50, 51);
        outs("1 still has no marble at home", court, 0, 3);
        Check.due("turn()", court.turn(), 1);
        Games.play(court, 54, 44);
        outs("1 is back at home", court, 0, 1, 3);
        Check.due("turn()", court.turn(), -1);
        HopperCourt later = Games.at(11, Games.EXCHANGED_AND_LEFT);
        later.setPatience(11);
        Games.play(later, 51, 50);
        outs("3 has made 10 moves of 11", later);
        Check.due("turn()", later.turn(), 3);
    }

    private static void othersGoOn() {
        HopperCourt court = Games.at(9, new int[] {6, 14, 114, 106});
        court.setPatience(1);
        Games.play(court, 14, 27);
        outs("both", court, 0, 3);
        Check.due("turn()", court.turn(), -1);
        Check.due("finished(0)", court.finished(0), -1);
        HopperCourt first = Games.at(7, new int[] {6, 14});
        first.setPatience(1);
        Games.play(first, 20, 18);
        outs("2 has made no move yet", first);
        Check.due("turn()", first.turn(), 2);
        Games.play(first, 84, 83);
        outs("all of three", first, 0, 1, 2);
    }

    private static void noSuchPlayer() {
        for (HopperCourt court : new HopperCourt[] {new HopperCourt(), Games.at(9, new int[0])}) {
            for (int player : new int[] {-1, 6, 7, 32, Integer.MIN_VALUE, Integer.MAX_VALUE}) {
                Check.throwsBounds("isOut(" + player + ")", () -> court.isOut(player) ? 1 : 0);
            }
            outs("nobody", court);
        }
    }
}
