/** Promise 21: way. */
final class WayTest {
    public static void main(String[] args) {
        waysOfKnownPositions();
        waysAreLeastPairings();
        eachPlayersWayLeadsToTheCampAcross();
        eachCellIsPairedWithOneMarble();
        fromTheLongestWayToNone();
        whoDoesNotPlay();
        noSuchPlayer();
        Check.end();
    }

    private static void waysOfKnownPositions() {
        HopperCourt court = Games.at(9, new int[0]);
        Check.due("way(0) at the beginning", court.way(0), 120);
        Games.play(court, 6, 14);
        Check.due("way(0) after a step", court.way(0), 119);
        Check.due("way(3) after a step of the other", court.way(3), 120);
        Games.play(court, 115, 102);
        Check.due("way(3) after a hop", court.way(3), 118);
        Check.due("way(0) with one at the top and nine there", Games.at(9, Games.SHUT_IN).way(0), 16);
        HopperCourt exchanged = Games.at(11, Games.EXCHANGED);
        Check.due("way(0), of 0 and 3 who exchanged one", exchanged.way(0), 110);
        Check.due("way(3), of 0 and 3 who exchanged one", exchanged.way(3), 110);
    }

    private static void waysAreLeastPairings() {
        int[][] games = {Games.SHUT_IN, Games.CROSSED_CHAINS, Games.OUT_AND_IN, Games.TWO_CHAINS};
        for (int[] game : games) {
            HopperCourt court = Games.at(9, new int[0]);
            PlainCourt plain = new PlainCourt();
            plain.begin(9);
            for (int i = 0; i < game.length; i += 2) {
                Games.play(court, game[i], game[i + 1]);
                plain.move(game[i], game[i + 1]);
                Check.due("way(0) after move " + i / 2, court.way(0), plain.way(0));
                Check.due("way(3) after move " + i / 2, court.way(3), plain.way(3));
            }
        }
    }

    private static void whoDoesNotPlay() {
        for (int set = 0; set < 64; set++) {
            if (Integer.bitCount(set) < 2) {
                continue;
            }
            HopperCourt court = Games.at(set, new int[0]);
            for (int player = 0; player < 6; player++) {
                boolean plays = (set & 1 << player) != 0;
                Check.due("begin(" + set + "): way(" + player + ")", court.way(player), plays ? 120 : -1);
            }
        }
        HopperCourt done = Games.at(11, Games.EXCHANGED);
        done.setFill(1);
        Games.play(done, 20, 18);
        Check.due("way(0) of one who has finished", done.way(0), 110);
        HopperCourt out = Games.over();
        Check.due("way(0) of one who is out", out.way(0), 119);
    }

    private static void noSuchPlayer() {
        for (HopperCourt court : new HopperCourt[] {new HopperCourt(), Games.at(9, new int[0])}) {
            for (int player : new int[] {-1, 6, 7, 32, Integer.MIN_VALUE, Integer.MAX_VALUE}) {
                Check.throwsBounds("way(" + player + ")", () -> court.way(player));
            }
        }
    }

    /** A move of a player changes its own way alone; camps 3, 4 and 5 have the goals 0, 1 and 2. */
    private static void eachPlayersWayLeadsToTheCampAcross() {
        HopperCourt court = Games.at(63, new int[0]);
        for (int player = 0; player < 6; player++) {
            for (int other = 0; other < 6; other++) {
                int want = other < player ? 118 : 120;
                Check.due("way(" + other + ") after " + player + " moves", court.way(other), want);
            }
            Games.play(court, court.bestFrom(), court.bestTo());
        }
    }

    /** Were cells paired more than once, the marbles would all go to the nearest, in row 13. */
    private static void eachCellIsPairedWithOneMarble() {
        HopperCourt court = Games.at(9, new int[0]);
        int nearest = 0;
        for (int cell = 0; cell < 10; cell++) {
            int least = 100;
            for (int goal = 111; goal <= 120; goal++) {
                least = Math.min(least, court.distance(cell, goal));
            }
            nearest += least;
        }
        Check.due("way(0)", court.way(0), 120);
        Check.due("the sum to the nearest cells", nearest, 110);
    }

    private static void fromTheLongestWayToNone() {
        HopperCourt court = Games.at(3, new int[0]);
        for (int i = 0; i < 116; i++) {
            court.move(court.bestFrom(), court.bestTo());
        }
        Check.due("way(1) with all marbles in the goal", court.way(1), 0);
        Check.due("finished(0)", court.finished(0), 1);
        Check.due("way(0), one who is not there yet", court.way(0) > 0, true);
        Check.due("way(2), one who does not play", court.way(2), -1);
        Check.due("way(5), one who does not play", court.way(5), -1);
        Check.throwsBounds("way(6)", () -> court.way(6));
        Check.throwsBounds("way(-1)", () -> court.way(-1));
    }
}
