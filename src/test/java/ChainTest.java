/** Promises 17 and 18: chainAt and hops. */
final class ChainTest {
    private static final int[] NO_CELLS = {-1, 121, Integer.MIN_VALUE, Integer.MAX_VALUE};

    public static void main(String[] args) {
        stepsHaveNoHops();
        chain(Games.at(9, new int[0]), 3, 14, 14);
        chain(Games.at(9, Games.TWO_CHAINS), 0, 16, 3, 16);
        chain(Games.at(9, Games.CROSSED_CHAINS), 42, 4, 19, 17, 4);
        chain(Games.at(11, Games.THROUGH_A_CAMP), 5, 43, 18, 20, 43);
        chain(Games.at(9, Games.OUT_AND_IN), 3, 0, 16, 5, 0);
        noQueryIsNeededBefore();
        lowerCellsComeFirst();
        theFirstAndTheLastHop();
        theFirstAndTheLastCell();
        noMoves();
        queriesChangeNothing();
        noSuchCell();
        Check.end();
    }

    private static void stepsHaveNoHops() {
        HopperCourt court = Games.at(9, new int[0]);
        Check.due("hops(6, 14)", court.hops(6, 14), 0);
        Check.due("chainAt(6, 14, 0)", court.chainAt(6, 14, 0), -1);
        Check.due("chainAt(6, 14, 1)", court.chainAt(6, 14, 1), -1);
    }

    private static void chain(HopperCourt court, int from, int to, int... want) {
        String cells = "(" + from + ", " + to;
        Check.due("hops" + cells + ")", court.hops(from, to), want.length);
        for (int hop = 0; hop < want.length; hop++) {
            Check.due("chainAt" + cells + ", " + hop + ")", court.chainAt(from, to, hop), want[hop]);
        }
        Check.due("chainAt behind the last hop", court.chainAt(from, to, want.length), -1);
        Check.due("chainAt far behind", court.chainAt(from, to, 1000), -1);
        Check.due("chainAt farthest", court.chainAt(from, to, Integer.MAX_VALUE), -1);
        Check.throwsBounds("chainAt with hop -1", () -> court.chainAt(from, to, -1));
        Check.throwsBounds("chainAt with hop least", () -> court.chainAt(from, to, Integer.MIN_VALUE));
    }

    private static void noMoves() {
        HopperCourt court = Games.at(9, new int[0]);
        int[][] pairs = {{6, 6}, {60, 61}, {60, 60}, {114, 106}, {0, 1}, {6, 27}, {3, 15}, {1, 14}};
        for (int[] pair : pairs) {
            String cells = "(" + pair[0] + ", " + pair[1];
            Check.due("hops" + cells + ")", court.hops(pair[0], pair[1]), -1);
            Check.due("chainAt" + cells + ", 0)", court.chainAt(pair[0], pair[1], 0), -1);
            Check.throwsBounds("chainAt" + cells + ", -1)", () -> court.chainAt(pair[0], pair[1], -1));
        }
        HopperCourt camp = Games.at(11, Games.THROUGH_A_CAMP);
        Check.due("hops(5, 20), an end in a camp of others", camp.hops(5, 20), -1);
        Check.due("chainAt(5, 20, 0)", camp.chainAt(5, 20, 0), -1);
        HopperCourt goal = Games.at(9, Games.OUT_AND_IN);
        Check.due("hops(3, 16), out of the goal", goal.hops(3, 16), -1);
        Check.due("chainAt(3, 16, 0)", goal.chainAt(3, 16, 0), -1);
        HopperCourt back = Games.at(9, Games.CROSSED_CHAINS);
        Check.due("hops(42, 42), back to where it began", back.hops(42, 42), -1);
        HopperCourt over = Games.over();
        Check.due("hops(7, 15) when the game is over", over.hops(7, 15), -1);
        Check.due("chainAt(3, 15, 0) when the game is over", over.chainAt(3, 15, 0), -1);
    }

    private static void queriesChangeNothing() {
        HopperCourt court = Games.at(9, Games.CROSSED_CHAINS);
        String before = Games.picture(court);
        court.chainAt(42, 4, 2);
        court.chainAt(42, 4, 0);
        Check.due("the game after queries", Games.picture(court), before);
        Check.due("ends(42) after queries", court.ends(42), Games.at(9, Games.CROSSED_CHAINS).ends(42));
    }

    private static void noSuchCell() {
        for (HopperCourt court : new HopperCourt[] {new HopperCourt(), Games.at(9, new int[0])}) {
            for (int cell : NO_CELLS) {
                Check.throwsBounds("hops(" + cell + ", 0)", () -> court.hops(cell, 0));
                Check.throwsBounds("hops(0, " + cell + ")", () -> court.hops(0, cell));
                Check.throwsBounds("chainAt(" + cell + ", 0, 0)", () -> court.chainAt(cell, 0, 0));
                Check.throwsBounds("chainAt(0, " + cell + ", 0)", () -> court.chainAt(0, cell, 0));
                Check.throwsBounds("chainAt of " + cell + " thrice", () -> court.chainAt(cell, cell, cell));
            }
            Check.throwsBounds("chainAt(0, 0, -1)", () -> court.chainAt(0, 0, -1));
        }
    }

    private static void noQueryIsNeededBefore() {
        Check.due("chainAt(3, 14, 0)", Games.at(9, new int[0]).chainAt(3, 14, 0), 14);
        Check.due("chainAt(42, 4, 1)", Games.at(9, Games.CROSSED_CHAINS).chainAt(42, 4, 1), 17);
        HopperCourt court = Games.at(9, new int[0]);
        court.ends(0);
        Check.due("chainAt(3, 14, 0) after ends(0)", court.chainAt(3, 14, 0), 14);
        court.hops(6, 14);
        Check.due("chainAt(3, 16, 0) after hops(6, 14)", court.chainAt(3, 16, 0), 16);
        court.hops(3, 14);
        Check.due("chainAt(6, 14, 0) after hops(3, 14)", court.chainAt(6, 14, 0), -1);
    }

    /** From 0 to 16 there are two chains of two hops; the other one, over 5, is longer by no hop. */
    private static void lowerCellsComeFirst() {
        HopperCourt court = Games.at(9, Games.TWO_CHAINS);
        Check.due("at(3), behind the lower first hop", court.at(3), -1);
        Check.due("at(5), behind the higher first hop", court.at(5), -1);
        Check.due("chainAt(0, 16, 0)", court.chainAt(0, 16, 0), 3);
        HopperCourt crossed = Games.at(9, Games.CROSSED_CHAINS);
        Check.due("chainAt(42, 4, 0)", crossed.chainAt(42, 4, 0), 19);
        Check.due("chainAt(42, 4, 1)", crossed.chainAt(42, 4, 1), 17);
    }

    private static void theFirstAndTheLastHop() {
        HopperCourt court = Games.at(9, Games.CROSSED_CHAINS);
        Check.throwsBounds("chainAt(42, 4, -1)", () -> court.chainAt(42, 4, -1));
        Check.due("chainAt(42, 4, 0)", Check.outcome(() -> court.chainAt(42, 4, 0)), "19");
        Check.due("chainAt(42, 4, 2), the last", Check.outcome(() -> court.chainAt(42, 4, 2)), "4");
        Check.due("chainAt(42, 4, 3)", Check.outcome(() -> court.chainAt(42, 4, 3)), "-1");
        Check.due("chainAt(42, 53, 0), a step", Check.outcome(() -> court.chainAt(42, 53, 0)), "-1");
        Check.throwsBounds("chainAt(42, 53, -1), a step", () -> court.chainAt(42, 53, -1));
    }

    private static void theFirstAndTheLastCell() {
        HopperCourt court = Games.at(9, new int[] {6, 14, 115, 102, 14, 6});
        chain(court, 120, 104, 115, 104);
        Check.due("hops(0, 120)", court.hops(0, 120), -1);
        Check.due("hops(120, 0)", court.hops(120, 0), -1);
        Check.due("chainAt(0, 120, 0)", court.chainAt(0, 120, 0), -1);
        Games.play(court, 120, 104, 6, 14);
        chain(court, 104, 120, 115, 120);
        chain(Games.at(9, Games.TWO_CHAINS), 0, 16, 3, 16);
        chain(Games.at(9, Games.OUT_AND_IN), 3, 0, 16, 5, 0);
    }
}
