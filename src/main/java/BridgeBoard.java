/** A puzzle of islands in a square board that are to be joined by bridges, with all its solutions. */
public final class BridgeBoard {
    private static final int SIDE = 6;
    private static final int CELLS = 36;
    private static final int MOST_ISLANDS = 7;
    private static final int HIGHEST_NUMBER = 8;
    private static final int MOST_BRIDGES = 2;
    private static final int BRIDGE_CHOICES = 3;
    private static final int MOST_SEARCHED_GAPS = 8;
    // Each island begins at most two gaps: one to its right and one below it.
    private static final int GAP_ROOM = 14;
    private static final int TALLY_ROOM = 42;
    private static final int REFUSED = -1;
    private static final int CROWDED = -2;

    // The board itself: the number of the island in each cell, 0 for none.
    // All other fields follow from it and are made anew when it changes.
    private final int[] numbers = new int[CELLS];

    private final int[] islandCells = new int[MOST_ISLANDS];
    private int islandCount = 0;

    private final int[] nearEnds = new int[GAP_ROOM];
    private final int[] farEnds = new int[GAP_ROOM];
    // One bit for each cell strictly between the ends.
    private final long[] cellsBetween = new long[GAP_ROOM];
    private int gapCount = 0;

    private int solutionCount = 0;
    private final int[] leastBridges = new int[GAP_ROOM];
    // How many solutions give a gap so many bridges, at BRIDGE_CHOICES * gap + bridges.
    private final int[] tally = new int[TALLY_ROOM];

    // The candidate that the search looks at, and what its islands still lack.
    private final int[] laid = new int[GAP_ROOM];
    private final int[] lacking = new int[CELLS];

    public BridgeBoard() {
        refresh();
    }

    public int place(int row, int column, int number) {
        if (!isOnBoard(row, column) || number < 1 || number > HIGHEST_NUMBER) {
            return REFUSED;
        }
        int cell = SIDE * row + column;
        if (numbers[cell] == 0 && islandCount >= MOST_ISLANDS) {
            return REFUSED;
        }
        numbers[cell] = number;
        refresh();
        return islandCount;
    }

    public int remove(int row, int column) {
        if (!isOnBoard(row, column)) {
            return REFUSED;
        }
        int cell = SIDE * row + column;
        if (numbers[cell] == 0) {
            return REFUSED;
        }
        numbers[cell] = 0;
        refresh();
        return islandCount;
    }

    public int island(int row, int column) {
        if (!isOnBoard(row, column)) {
            return REFUSED;
        }
        return numbers[SIDE * row + column];
    }

    public int gaps() {
        return gapCount;
    }

    public int end(int gap, boolean far) {
        if (!isGap(gap)) {
            return REFUSED;
        }
        return far ? farEnds[gap] : nearEnds[gap];
    }

    public int solutions() {
        if (isCrowded()) {
            return CROWDED;
        }
        return solutionCount;
    }

    public int least(int gap) {
        if (isCrowded()) {
            return CROWDED;
        }
        if (!isGap(gap) || solutionCount == 0) {
            return REFUSED;
        }
        return leastBridges[gap];
    }

    public int always(int gap) {
        if (isCrowded()) {
            return CROWDED;
        }
        if (!isGap(gap) || solutionCount == 0) {
            return REFUSED;
        }
        // If all solutions agree, they agree with the least one.
        int common = leastBridges[gap];
        return tally[BRIDGE_CHOICES * gap + common] == solutionCount ? common : REFUSED;
    }

    public int with(int gap, int bridges) {
        if (isCrowded()) {
            return CROWDED;
        }
        if (!isGap(gap) || bridges < 0 || bridges > MOST_BRIDGES) {
            return REFUSED;
        }
        return tally[BRIDGE_CHOICES * gap + bridges];
    }

    private static boolean isOnBoard(int row, int column) {
        return row >= 0 && row < SIDE && column >= 0 && column < SIDE;
    }

    private boolean isGap(int gap) {
        return gap >= 0 && gap < gapCount;
    }

    private boolean isCrowded() {
        return gapCount > MOST_SEARCHED_GAPS;
    }

    private void refresh() {
        listIslands();
        listGaps();
        findSolutions();
    }

    private void listIslands() {
        islandCount = 0;
        for (int cell = 0; cell < CELLS && islandCount < MOST_ISLANDS; cell++) {
            if (numbers[cell] != 0) {
                islandCells[islandCount] = cell;
                islandCount++;
            }
        }
    }

    private void listGaps() {
        gapCount = 0;
        for (int i = 0; i < islandCount; i++) {
            int cell = islandCells[i];
            int column = cell % SIDE;
            int row = cell / SIDE;
            addGap(cell, 1, SIDE - 1 - column);
            addGap(cell, SIDE, SIDE - 1 - row);
        }
    }

    /** Adds the gap from an island to the next one in a direction, if one lies within reach. */
    private void addGap(int from, int step, int reach) {
        long between = 0L;
        for (int distance = 1; distance <= reach; distance++) {
            int cell = from + distance * step;
            if (numbers[cell] != 0) {
                nearEnds[gapCount] = from;
                farEnds[gapCount] = cell;
                cellsBetween[gapCount] = between;
                gapCount++;
                return;
            }
            between |= 1L << cell;
        }
    }

    private void findSolutions() {
        solutionCount = 0;
        for (int i = 0; i < TALLY_ROOM; i++) {
            tally[i] = 0;
        }
        if (isCrowded()) {
            return;
        }
        int candidates = 1;
        for (int gap = 0; gap < gapCount; gap++) {
            candidates *= BRIDGE_CHOICES;
        }
        for (int candidate = 0; candidate < candidates; candidate++) {
            layBridges(candidate);
            if (numbersAreMet() && noBridgesCross() && allIslandsAreJoined()) {
                countSolution();
            }
        }
    }

    /** Gap 0 gets the highest digit, so that the least solution is the first one found. */
    private void layBridges(int candidate) {
        int digits = candidate;
        for (int gap = gapCount - 1; gap >= 0; gap--) {
            laid[gap] = digits % BRIDGE_CHOICES;
            digits /= BRIDGE_CHOICES;
        }
    }

    private boolean numbersAreMet() {
        for (int i = 0; i < islandCount; i++) {
            int cell = islandCells[i];
            lacking[cell] = numbers[cell];
        }
        for (int gap = 0; gap < gapCount; gap++) {
            lacking[nearEnds[gap]] -= laid[gap];
            lacking[farEnds[gap]] -= laid[gap];
        }
        for (int i = 0; i < islandCount; i++) {
            if (lacking[islandCells[i]] != 0) {
                return false;
            }
        }
        return true;
    }

    private boolean noBridgesCross() {
        long covered = 0L;
        for (int gap = 0; gap < gapCount; gap++) {
            if (laid[gap] > 0) {
                if ((covered & cellsBetween[gap]) != 0L) {
                    return false;
                }
                covered |= cellsBetween[gap];
            }
        }
        return true;
    }

    private boolean allIslandsAreJoined() {
        if (islandCount == 0) {
            return true;
        }
        long all = 0L;
        for (int i = 0; i < islandCount; i++) {
            all |= 1L << islandCells[i];
        }
        long reached = 1L << islandCells[0];
        // A round reaches at least one island more unless none is left to reach.
        for (int round = 1; round < islandCount; round++) {
            reached = reachFurther(reached);
        }
        return reached == all;
    }

    private long reachFurther(long start) {
        long reached = start;
        for (int gap = 0; gap < gapCount; gap++) {
            long ends = 1L << nearEnds[gap] | 1L << farEnds[gap];
            if (laid[gap] > 0 && (reached & ends) != 0L) {
                reached |= ends;
            }
        }
        return reached;
    }

    private void countSolution() {
        for (int gap = 0; gap < gapCount; gap++) {
            if (solutionCount == 0) {
                leastBridges[gap] = laid[gap];
            }
            tally[BRIDGE_CHOICES * gap + laid[gap]]++;
        }
        solutionCount++;
    }
}
