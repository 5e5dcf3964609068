/** Games that come to positions which the tests look at, as pairs of cells: from, to. */
final class Games {
    /** begin(9): player 0 has nine marbles in its goal, the tenth shut in at the top, and no move. */
    static final int[] SHUT_IN = {
        4, 15, 112, 103, 7, 27, 114, 90, 5, 39, 117, 79, 6, 49, 111, 68, 15, 80, 103, 15,
        1, 26, 116, 105, 27, 48, 79, 5, 39, 102, 118, 70, 9, 27, 113, 104, 2, 9, 105, 38,
        49, 59, 68, 50, 26, 112, 50, 39, 27, 68, 39, 28, 59, 116, 28, 1, 9, 27, 38, 26,
        48, 58, 26, 14, 58, 79, 15, 16, 68, 118, 5, 2, 80, 103, 16, 5, 3, 6, 14, 3,
        79, 91, 90, 92, 91, 111, 70, 69, 8, 16, 92, 91, 6, 15, 91, 79, 16, 39, 69, 90,
        15, 40, 90, 89, 27, 50, 115, 117, 102, 115, 104, 102, 39, 60, 79, 68, 40, 78, 68, 58,
        112, 113, 119, 51, 50, 70, 117, 104, 60, 81, 51, 41, 70, 93, 104, 105, 81, 117, 41, 29,
        78, 90, 105, 92, 90, 119, 58, 48, 93, 106, 29, 28, 106, 114, 92, 81, 103, 112, 81, 70
    };

    /** begin(11): players 0 and 3 have exchanged one marble, both camps are full, 1 is on turn. */
    static final int[] EXCHANGED = {
        9, 18, 32, 31, 114, 106, 18, 43, 34, 53, 106, 93, 43, 62, 33, 32, 93, 82, 62, 72, 45, 33,
        82, 42, 72, 83, 32, 43, 42, 30, 83, 94, 31, 54, 30, 17, 94, 106, 55, 34, 17, 9, 106, 114
    };

    /** The same, and player 1 has left its camp with all its marbles. */
    static final int[] EXCHANGED_AND_LEFT = {
        8, 16, 55, 54, 114, 105, 16, 28, 34, 53, 105, 93, 28, 39, 20, 62, 93, 82, 39, 50, 22, 64,
        82, 71, 50, 59, 44, 82, 71, 61, 59, 69, 21, 63, 61, 51, 69, 80, 45, 43, 51, 40, 80, 92,
        33, 31, 40, 41, 92, 93, 32, 51, 41, 30, 93, 105, 19, 17, 30, 8, 105, 114
    };

    /** begin(9): player 0 has two shortest chains from 0 to 16, over 3 and over 5. */
    static final int[] TWO_CHAINS = {3, 14, 115, 102, 5, 18, 120, 104};

    /** begin(9): from 42 to 4 the lowest first hop does not lead over the lowest second cell. */
    static final int[] CROSSED_CHAINS = {
        9, 18, 115, 102, 5, 16, 120, 104, 0, 5, 113, 91, 2, 31, 116, 80, 4, 42, 112, 69,
        16, 29, 104, 60, 3, 41, 69, 28
    };

    /** begin(11): player 0 comes from 5 to 43 in three hops, behind the second in the camp 1. */
    static final int[] THROUGH_A_CAMP = {8, 17, 20, 16, 115, 102};

    /** begin(9): player 3 comes from 3 to 0, both in its goal, by hops that leave it in between. */
    static final int[] OUT_AND_IN = {
        3, 14, 111, 103, 8, 16, 118, 91, 1, 28, 117, 79, 4, 8, 112, 69, 5, 18, 103, 59,
        0, 5, 91, 50, 16, 58, 79, 3, 5, 79
    };

    /**
     * begin(63): each player has brought one marble into the goal, to the place that its opposite
     * left for it; all six by their ninth moves, the player 5 by the last of all.
     */
    static final int[] SIX_EXCHANGED = {
        6, 15, 19, 18, 107, 106, 112, 103, 76, 77, 36, 37, 15, 27, 18, 17, 106, 93, 103, 90, 77, 78, 37, 48,
        27, 38, 17, 16, 93, 81, 90, 67, 78, 68, 48, 49, 38, 59, 16, 15, 81, 80, 67, 57, 68, 50, 49, 69,
        59, 68, 15, 27, 80, 59, 57, 47, 50, 51, 69, 80, 68, 79, 27, 38, 59, 58, 47, 37, 51, 52, 80, 81,
        79, 91, 38, 48, 58, 57, 37, 26, 52, 42, 81, 93, 91, 104, 48, 66, 57, 47, 26, 14, 42, 31, 93, 106,
        104, 112, 66, 76, 47, 36, 14, 6, 31, 19, 106, 107
    };

    /** begin(9): player 0 has left its camp with all marbles, one of player 3 lies there; 3 is on turn. */
    static final int[] LEFT_TO_ANOTHER = {
        3, 14, 114, 106, 0, 16, 119, 94, 4, 15, 116, 82, 5, 18, 94, 71, 7, 29, 82, 61, 6, 26,
        71, 51, 16, 60, 61, 4, 2, 27, 112, 94, 9, 31, 106, 83, 8, 17, 120, 119, 1, 28
    };

    private Games() {
    }

    static HopperCourt at(int players, int[] pairs) {
        HopperCourt court = new HopperCourt();
        court.begin(players);
        play(court, pairs);
        return court;
    }

    /** Players 0 and 1 with patience 1: a move each, and both are out. */
    static HopperCourt over() {
        HopperCourt court = new HopperCourt();
        court.setPatience(1);
        court.begin(3);
        play(court, 6, 14, 20, 18);
        return court;
    }

    /** Players 3 and 0 are out, one marble of 0 lies on 93 in the middle, and 1 plays on alone. */
    static HopperCourt oneOutAbroad() {
        HopperCourt court = at(11, EXCHANGED_AND_LEFT);
        court.undo();
        play(court, 105, 93);
        court.setPatience(1);
        play(court, 62, 71);
        return court;
    }

    /**
     * begin(9): SHUT_IN with the board turned round, so that player 3 has no move. Player 0, which
     * now begins, needs two steps for what was the first move of 3.
     */
    static int[] shutInBelow() {
        int[] pairs = new int[SHUT_IN.length + 2];
        System.arraycopy(new int[] {8, 16, 116, 105, 16, 17}, 0, pairs, 0, 6);
        for (int i = 4; i < SHUT_IN.length; i++) {
            pairs[i + 2] = 120 - SHUT_IN[i];
        }
        return pairs;
    }

    /** begin(63): 300 moves, 50 of each player, by one marble of each that goes out and home again. */
    static int[] threeHundred() {
        int[][] steps = {{6, 14}, {20, 18}, {84, 83}, {114, 106}, {100, 102}, {36, 37}};
        int[] pairs = new int[600];
        for (int made = 0; made < 300; made++) {
            int[] step = steps[made % 6];
            int back = made / 6 % 2;
            pairs[2 * made] = step[back];
            pairs[2 * made + 1] = step[1 - back];
        }
        return pairs;
    }

    static void play(HopperCourt court, int... pairs) {
        for (int i = 0; i + 1 < pairs.length; i += 2) {
            court.move(pairs[i], pairs[i + 1]);
        }
    }

    /** All that a call that throws must leave as it was, but for the fill and the patience. */
    static String picture(HopperCourt court) {
        StringBuilder picture = new StringBuilder();
        for (int cell = 0; cell < 121; cell++) {
            picture.append(court.at(cell)).append(' ');
        }
        picture.append("turn ").append(court.turn()).append(" made ").append(court.made());
        for (int player = 0; player < 6; player++) {
            picture.append(' ').append(court.finished(player)).append(court.isOut(player));
        }
        return picture.toString();
    }
}
