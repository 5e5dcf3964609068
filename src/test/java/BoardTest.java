import java.util.ArrayList;
import java.util.Arrays;
import java.util.List;

/** Promises 8 to 11: at, cellAt, campOf and distance. */
final class BoardTest {
    /** First column and number of cells by row, as the document lists them. */
    private static final int[][] ROWS = {
        {12, 1}, {11, 2}, {10, 3}, {9, 4}, {0, 13}, {1, 12}, {2, 11}, {3, 10}, {4, 9},
        {3, 10}, {2, 11}, {1, 12}, {0, 13}, {9, 4}, {10, 3}, {11, 2}, {12, 1}
    };
    private static final int[][] CAMPS = {
        {0, 1, 2, 3, 4, 5, 6, 7, 8, 9},
        {19, 20, 21, 22, 32, 33, 34, 44, 45, 55},
        {74, 84, 85, 95, 96, 97, 107, 108, 109, 110},
        {111, 112, 113, 114, 115, 116, 117, 118, 119, 120},
        {65, 75, 76, 86, 87, 88, 98, 99, 100, 101},
        {10, 11, 12, 13, 23, 24, 25, 35, 36, 46}
    };
    private static final int[] NO_CELLS = {-1, 121, -121, 122, Integer.MIN_VALUE, Integer.MAX_VALUE};

    private static final int[][] NUMBER = new int[17][25];

    public static void main(String[] args) {
        cellsHaveRowsAndColumns();
        rowsBeginAndEnd();
        thereAreSeventeenRows();
        farNumbersDoNotWrapAround();
        campsHaveTenCells();
        campsEndAtTheirColumns();
        campsEndAtTheirRows();
        distancesAreLeastSteps();
        distancesDoNotRunOnFromRowToRow();
        aCellIsNoStepFromItself();
        marblesAreWhereTheyWereMoved();
        theFirstAndTheLastCell();
        noSuchCell();
        Check.end();
    }

    private static void cellsHaveRowsAndColumns() {
        int cells = 0;
        for (int row = 0; row < 17; row++) {
            Arrays.fill(NUMBER[row], -1);
            for (int i = 0; i < ROWS[row][1]; i++) {
                NUMBER[row][ROWS[row][0] + 2 * i] = cells;
                cells++;
            }
        }
        Check.due("cells of the rows", cells, 121);
        for (int row = -3; row < 20; row++) {
            HopperCourt court = new HopperCourt();
            for (int column = -4; column < 30; column++) {
                Check.due("cellAt(" + row + ", " + column + ")",
                        court.cellAt(row, column), number(row, column));
            }
        }
        int[] far = {Integer.MIN_VALUE, Integer.MIN_VALUE + 1, -1000, 1000, Integer.MAX_VALUE};
        HopperCourt court = new HopperCourt();
        for (int one : far) {
            for (int other : new int[] {0, 4, 8, 12, 16, one, Integer.MIN_VALUE, Integer.MAX_VALUE}) {
                Check.due("cellAt(" + one + ", " + other + ")", court.cellAt(one, other), -1);
                Check.due("cellAt(" + other + ", " + one + ")", court.cellAt(other, one), -1);
            }
        }
    }

    /** Each row's first and last column by the document's words, and the columns beside them. */
    private static void rowsBeginAndEnd() {
        int cell = 0;
        HopperCourt court = new HopperCourt();
        for (int row = 0; row <= 16; row++) {
            int r = Math.min(row, 16 - row);
            int first = new int[] {12, 11, 10, 9, 0, 1, 2, 3, 4}[r];
            int last = new int[] {12, 13, 14, 15, 24, 23, 22, 21, 20}[r];
            String name = "cellAt(" + row + ", ";
            Check.due(name + first + "), the first", court.cellAt(row, first), cell);
            Check.due(name + (first - 2) + "), ahead of the first", court.cellAt(row, first - 2), -1);
            Check.due(name + (first - 1) + "), half a cell ahead", court.cellAt(row, first - 1), -1);
            Check.due(name + (first + 1) + "), half a cell behind", court.cellAt(row, first + 1), -1);
            cell += (last - first) / 2;
            Check.due(name + last + "), the last", court.cellAt(row, last), cell);
            Check.due(name + (last + 1) + "), half a cell behind", court.cellAt(row, last + 1), -1);
            Check.due(name + (last + 2) + "), behind the last", court.cellAt(row, last + 2), -1);
            cell++;
        }
        Check.due("the cells of all rows", cell, 121);
    }

    private static void thereAreSeventeenRows() {
        for (int column = -1; column <= 25; column++) {
            HopperCourt court = new HopperCourt();
            Check.due("cellAt(-1, " + column + ")", court.cellAt(-1, column), -1);
            Check.due("cellAt(17, " + column + ")", court.cellAt(17, column), -1);
        }
        HopperCourt court = new HopperCourt();
        Check.due("cellAt(0, 12), of the first row", court.cellAt(0, 12), 0);
        Check.due("cellAt(16, 12), of the last row", court.cellAt(16, 12), 120);
    }

    /** Numbers that would be a row or a column again if their upper bits were lost. */
    private static void farNumbersDoNotWrapAround() {
        HopperCourt court = new HopperCourt();
        for (int bit = 5; bit < 32; bit++) {
            int far = 1 << bit;
            Check.due("cellAt(8, 12 + " + far + ")", court.cellAt(8, 12 + far), -1);
            Check.due("cellAt(8, 12 - " + far + ")", court.cellAt(8, 12 - far), -1);
            Check.due("cellAt(8 + " + far + ", 12)", court.cellAt(8 + far, 12), -1);
            Check.due("cellAt(8 - " + far + ", 12)", court.cellAt(8 - far, 12), -1);
        }
        for (int bit = 6; bit < 32; bit++) {
            int cell = 60 + (1 << bit);
            Check.throwsBounds("at(" + cell + ")", () -> court.at(cell));
            Check.throwsBounds("campOf(" + cell + ")", () -> court.campOf(cell));
            Check.throwsBounds("distance(60, " + cell + ")", () -> court.distance(60, cell));
            Check.throwsBounds("distance(" + cell + ", 60)", () -> court.distance(cell, 60));
        }
    }

    private static int number(int row, int column) {
        return row < 0 || row > 16 || column < 0 || column > 24 ? -1 : NUMBER[row][column];
    }

    private static void campsHaveTenCells() {
        int[] camp = new int[121];
        Arrays.fill(camp, -1);
        for (int c = 0; c < 6; c++) {
            for (int cell : CAMPS[c]) {
                camp[cell] = c;
            }
        }
        HopperCourt court = new HopperCourt();
        for (int cell = 0; cell < 121; cell++) {
            Check.due("campOf(" + cell + ")", court.campOf(cell), camp[cell]);
        }
    }

    private static void camp(int row, int column, int want) {
        HopperCourt court = new HopperCourt();
        int cell = court.cellAt(row, column);
        Check.due("campOf(" + cell + "), row " + row + ", column " + column, court.campOf(cell), want);
    }

    /** The last columns that are of a camp yet, and the ones beside them, by the document's sums. */
    private static void campsEndAtTheirColumns() {
        for (int row = 4; row <= 7; row++) {
            camp(row, 14 + row, 1);
            camp(row, 14 + row - 2, -1);
            camp(row, 10 - row, 5);
            camp(row, 10 - row + 2, -1);
        }
        for (int row = 9; row <= 12; row++) {
            camp(row, 30 - row, 2);
            camp(row, 30 - row - 2, -1);
            camp(row, row - 6, 4);
            camp(row, row - 6 + 2, -1);
        }
    }

    private static void campsEndAtTheirRows() {
        for (int column = 9; column <= 15; column += 2) {
            camp(3, column, 0);
            camp(13, column, 3);
        }
        for (int column = 10; column <= 14; column += 2) {
            camp(4, column, -1);
            camp(12, column, -1);
        }
        for (int column = 4; column <= 20; column += 2) {
            camp(8, column, -1);
        }
        camp(7, 21, 1);
        camp(7, 3, 5);
        camp(9, 21, 2);
        camp(9, 3, 4);
    }

    /** By number each follows the other, but one ends a row and the other begins the next. */
    private static void distancesDoNotRunOnFromRowToRow() {
        HopperCourt court = new HopperCourt();
        int[][] ends = {{9, 10, 8}, {22, 23, 12}, {34, 35, 11}, {45, 46, 10}, {55, 56, 9},
            {64, 65, 9}, {74, 75, 10}, {85, 86, 11}, {97, 98, 12}, {110, 111, 8}};
        for (int[] pair : ends) {
            int last = pair[0];
            int first = pair[1];
            Check.due("distance(" + last + ", " + first + ")", court.distance(last, first), pair[2]);
            Check.due("distance(" + first + ", " + last + ")", court.distance(first, last), pair[2]);
        }
    }

    private static void aCellIsNoStepFromItself() {
        HopperCourt court = new HopperCourt();
        for (int cell = 0; cell <= 120; cell++) {
            Check.due("distance(" + cell + ", " + cell + ")", court.distance(cell, cell), 0);
        }
    }

    private static void distancesAreLeastSteps() {
        for (int from = 0; from < 121; from++) {
            int[] steps = flood(from);
            HopperCourt court = new HopperCourt();
            for (int to = 0; to < 121; to++) {
                Check.due("distance(" + from + ", " + to + ")", court.distance(from, to), steps[to]);
            }
        }
        HopperCourt empty = new HopperCourt();
        Check.due("distance(0, 120)", empty.distance(0, 120), 16);
        Check.due("distance(0, 22)", empty.distance(0, 22), 8);
        Check.due("distance(10, 22)", empty.distance(10, 22), 12);
        HopperCourt full = Games.at(63, new int[0]);
        Check.due("distance(0, 120), marbles or not", full.distance(0, 120), 16);
        Check.due("distance(0, 1) of taken cells", full.distance(0, 1), 1);
    }

    /** Counts steps outwards over the cells of the rows, ring by ring. */
    private static int[] flood(int from) {
        int[] steps = new int[121];
        Arrays.fill(steps, -1);
        steps[from] = 0;
        List<Integer> open = new ArrayList<>(List.of(from));
        int[][] directions = {{0, 2}, {1, 1}, {1, -1}, {0, -2}, {-1, -1}, {-1, 1}};
        for (int i = 0; i < open.size(); i++) {
            int[] place = placeOf(open.get(i));
            for (int[] d : directions) {
                int to = number(place[0] + d[0], place[1] + d[1]);
                if (to != -1 && steps[to] == -1) {
                    steps[to] = steps[open.get(i)] + 1;
                    open.add(to);
                }
            }
        }
        return steps;
    }

    private static int[] placeOf(int cell) {
        int first = 0;
        for (int row = 0; row < 17; row++) {
            if (cell < first + ROWS[row][1]) {
                return new int[] {row, ROWS[row][0] + 2 * (cell - first)};
            }
            first += ROWS[row][1];
        }
        throw new IllegalArgumentException();
    }

    private static void marblesAreWhereTheyWereMoved() {
        HopperCourt court = Games.at(9, new int[] {3, 14, 114, 106});
        Check.due("at(3)", court.at(3), -1);
        Check.due("at(14)", court.at(14), 0);
        Check.due("at(6), over which the hop went", court.at(6), 0);
        Check.due("at(114)", court.at(114), -1);
        Check.due("at(106)", court.at(106), 3);
        Check.due("at(60)", court.at(60), -1);
    }

    private static void theFirstAndTheLastCell() {
        HopperCourt court = Games.at(9, new int[0]);
        Check.due("at(0)", court.at(0), 0);
        Check.due("at(120)", court.at(120), 3);
        Check.due("campOf(0)", court.campOf(0), 0);
        Check.due("campOf(120)", court.campOf(120), 3);
        Check.due("distance(0, 120)", court.distance(0, 120), 16);
        Check.due("distance(120, 0)", court.distance(120, 0), 16);
    }

    private static void noSuchCell() {
        HopperCourt court = new HopperCourt();
        for (int cell : NO_CELLS) {
            Check.throwsBounds("at(" + cell + ")", () -> court.at(cell));
            Check.throwsBounds("campOf(" + cell + ")", () -> court.campOf(cell));
            Check.throwsBounds("distance(" + cell + ", 0)", () -> court.distance(cell, 0));
            Check.throwsBounds("distance(0, " + cell + ")", () -> court.distance(0, cell));
            Check.throwsBounds("distance of " + cell + " twice", () -> court.distance(cell, cell));
        }
    }
}
