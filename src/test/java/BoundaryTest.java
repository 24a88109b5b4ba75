import java.util.function.ToIntFunction;

/** One test for each sentence of the document that names a boundary case; a failure tells the sentence. */
public final class BoundaryTest {
    /** Just outside 0 to 5, far outside, and values that land inside once 6 * row or 3 * gap has wrapped around. */
    private static final int[] OFF_BOARD = {
        -1, 6, -6, 36, 715827883, -715827882, 1431655766, Integer.MIN_VALUE, Integer.MAX_VALUE
    };
    private static final int[] BAD_NUMBERS = {0, 9, -1, -8, 256, 257, Integer.MIN_VALUE, Integer.MAX_VALUE};
    private static final int[] BAD_BRIDGES = {-1, 3, -2, 4, 256, Integer.MIN_VALUE, Integer.MAX_VALUE};

    private static String sentence = "";
    private static int sentences = 0;
    private static int wrong = 0;

    public static void main(String[] args) {
        terms();
        newObject();
        place();
        remove();
        island();
        gaps();
        end();
        solutions();
        least();
        always();
        with();
        orderAndLimits();
        System.out.println(sentences + " sentences, " + wrong + " answers that are not as due");
        if (wrong != 0) {
            System.exit(1);
        }
    }

    // ---- what the tests are made of

    private static void about(String text) {
        sentence = text;
        sentences++;
    }

    private static void due(String call, int got, int want) {
        if (got != want) {
            wrong++;
            System.out.println("[" + sentence + "] " + call + " answered " + got + ", due is " + want);
        }
    }

    /** A board from triples of row, column and number. */
    private static BridgeBoard board(int... islands) {
        BridgeBoard b = new BridgeBoard();
        for (int i = 0; i < islands.length; i += 3) {
            due("building: place", b.place(islands[i], islands[i + 1], islands[i + 2]), i / 3 + 1);
        }
        return b;
    }

    /** 4 gaps and two solutions: 1221 and 2112. */
    private static BridgeBoard squareOfThrees() {
        return board(0, 0, 3, 0, 3, 3, 3, 0, 3, 3, 3, 3);
    }

    /** 8 gaps and five solutions: 02121012, 11022021, 11111112, 20012121 and 20101212. */
    private static BridgeBoard fiveSolutions() {
        return board(0, 0, 2, 0, 1, 3, 0, 2, 2, 1, 0, 3, 1, 1, 2, 2, 0, 3, 2, 2, 3);
    }

    /** 8 gaps and two solutions: 01110121 and 01111012. */
    private static BridgeBoard lateDifference() {
        return board(1, 0, 1, 1, 1, 2, 1, 3, 1, 2, 0, 2, 2, 1, 3, 3, 0, 2, 3, 1, 3);
    }

    /** 8 gaps, of which 2 and 3 have a cell in common, and two solutions: 02101111 and 11011012. */
    private static BridgeBoard eitherOfTheCrossing() {
        return board(0, 0, 2, 0, 1, 1, 1, 0, 3, 1, 2, 1, 2, 0, 2, 2, 1, 3, 2, 2, 2);
    }

    private static void dueAtEachGap(String call, ToIntFunction<Integer> answer, int... want) {
        for (int gap = 0; gap < want.length; gap++) {
            due(call + " at gap " + gap, answer.applyAsInt(gap), want[gap]);
        }
    }

    /** Numbers that are no gap's on a board with so many gaps; 715827883 * 6 and 1431655766 * 3 wrap around to 2. */
    private static int[] noGaps(int gaps) {
        return new int[] {
            -1, gaps, gaps + 1, -gaps - 1, 14, 36, 715827883, 1431655766, -1431655765, Integer.MIN_VALUE,
            Integer.MAX_VALUE
        };
    }

    /** All that can be asked; at most 110 calls. */
    private static String state(BridgeBoard b) {
        StringBuilder text = new StringBuilder();
        for (int cell = 0; cell < 36; cell++) {
            text.append(b.island(cell / 6, cell % 6));
        }
        int gaps = b.gaps();
        text.append(" gaps ").append(gaps).append(" solutions ").append(b.solutions());
        for (int gap = 0; gap < gaps; gap++) {
            text.append(" | ").append(b.end(gap, false)).append(' ').append(b.end(gap, true));
            text.append(' ').append(b.least(gap)).append(' ').append(b.always(gap));
            for (int bridges = 0; bridges <= 2; bridges++) {
                text.append(' ').append(b.with(gap, bridges));
            }
        }
        return text.toString();
    }

    /** The call is refused with -1 and all answers stay as they were. */
    private static void refused(String call, BridgeBoard b, ToIntFunction<BridgeBoard> refusedCall) {
        String before = state(b);
        due(call, refusedCall.applyAsInt(b), -1);
        String after = state(b);
        if (!after.equals(before)) {
            wrong++;
            System.out.println("[" + sentence + "] " + call + " changed " + before + " to " + after);
        }
    }

    // ---- Terms

    private static void terms() {
        boardHasSixRowsAndColumns();
        numbersGoFromOneToEight();
        atMostSevenIslands();
        gapsLieInOneLine();
        gapsNeedTwoIslands();
        gapsHaveNoIslandBetween();
        gapsMayHaveNoCells();
        gapsAreNumberedInOrder();
        bridgesAreNoneOneOrTwo();
        sumsAreTheNumbers();
        crossingGapsAreNotBothUsed();
        crossingsInEveryInnerCell();
        farLinesHaveNoCellInCommon();
        islandsReachEachOther();
        noIslandAtAll();
        leastIsTheFirstInOrder();
        eightGapsAreNotCrowded();
        noBoardIsCrowded();
    }

    private static void boardHasSixRowsAndColumns() {
        about("Terms: the board has 6 rows and 6 columns, (row, column) from 0 to 5");
        for (int cell = 0; cell < 36; cell++) {
            BridgeBoard b = new BridgeBoard();
            int row = cell / 6;
            int column = cell % 6;
            due("place in cell " + cell, b.place(row, column, 5), 1);
            for (int other = 0; other < 36; other++) {
                due("island in cell " + other, b.island(other / 6, other % 6), other == cell ? 5 : 0);
            }
            due("remove from cell " + cell, b.remove(row, column), 0);
        }
    }

    private static void numbersGoFromOneToEight() {
        about("Terms: a cell holds no island or an island with a number from 1 to 8");
        BridgeBoard b = new BridgeBoard();
        due("no island", b.island(2, 3), 0);
        due("number 0", b.place(2, 3, 0), -1);
        for (int number = 1; number <= 8; number++) {
            due("number " + number, b.place(2, 3, number), 1);
            due("number " + number, b.island(2, 3), number);
        }
        due("number 9", b.place(2, 3, 9), -1);
        due("number kept", b.island(2, 3), 8);
    }

    private static void atMostSevenIslands() {
        about("Terms: at most 7 islands are held");
        BridgeBoard b = new BridgeBoard();
        for (int cell = 0; cell < 36; cell++) {
            due("place in cell " + cell, b.place(cell / 6, cell % 6, 1), cell < 7 ? cell + 1 : -1);
        }
        for (int cell = 0; cell < 36; cell++) {
            due("island in cell " + cell, b.island(cell / 6, cell % 6), cell < 7 ? 1 : 0);
        }
    }

    private static void gapsLieInOneLine() {
        about("Terms: two islands make a gap if they lie in the same row or in the same column");
        due("slanting down", board(0, 0, 1, 1, 1, 1).gaps(), 0);
        due("slanting up", board(0, 5, 1, 1, 4, 1).gaps(), 0);
        due("corners", board(0, 0, 1, 5, 5, 1).gaps(), 0);
        for (int line = 0; line < 6; line++) {
            due("whole row " + line, board(line, 0, 1, line, 5, 1).gaps(), 1);
            due("whole column " + line, board(0, line, 1, 5, line, 1).gaps(), 1);
        }
        for (int line = 0; line < 5; line++) {
            due("end of row " + line + " and start of the next", board(line, 5, 1, line + 1, 0, 1).gaps(), 0);
            due("foot of column " + line + " and head of the next", board(5, line, 1, 0, line + 1, 1).gaps(), 0);
        }
    }

    private static void gapsNeedTwoIslands() {
        about("Terms: .. in different cells");
        for (int cell = 0; cell < 36; cell++) {
            due("one island in cell " + cell, board(cell / 6, cell % 6, 2).gaps(), 0);
        }
    }

    private static void gapsHaveNoIslandBetween() {
        about("Terms: .. and no other island lies in a cell between them");
        for (int between = 1; between <= 4; between++) {
            BridgeBoard row = board(2, 0, 1, 2, 5, 1, 2, between, 2);
            due("row split", row.gaps(), 2);
            due("row split, end", row.end(0, true), 12 + between);
            BridgeBoard column = board(0, 2, 1, 5, 2, 1, between, 2, 2);
            due("column split", column.gaps(), 2);
            due("column split, end", column.end(0, true), 6 * between + 2);
        }
        due("an island before both", board(2, 1, 1, 2, 5, 1, 2, 0, 1).gaps(), 2);
        due("an island beside the gap", board(2, 0, 1, 2, 5, 1, 3, 3, 1).gaps(), 1);
    }

    private static void gapsMayHaveNoCells() {
        about("Terms: the cells strictly between them are the cells of the gap (there may be none)");
        BridgeBoard pair = board(5, 4, 2, 5, 5, 2);
        due("neighbours in a row", pair.gaps(), 1);
        due("neighbours in a row", pair.always(0), 2);
        due("neighbours in a column", board(4, 5, 1, 5, 5, 1).always(0), 1);
        BridgeBoard block = board(2, 2, 4, 2, 3, 4, 3, 2, 4, 3, 3, 4);
        due("block without cells between", block.gaps(), 4);
        due("gaps without cells have none in common", block.solutions(), 1);
        dueAtEachGap("always", block::always, 2, 2, 2, 2);
        // The ends of a gap are not among its cells.
        BridgeBoard corner = board(0, 0, 4, 0, 2, 2, 2, 0, 2);
        due("gaps that meet in an island do not cross", corner.solutions(), 1);
    }

    private static void gapsAreNumberedInOrder() {
        about("Terms: islands by row, those of a row by column; first the gap on the right, then the gap below");
        BridgeBoard b = board(2, 2, 1, 2, 0, 1, 0, 2, 1, 0, 0, 1);
        dueAtEachGap("near end", gap -> b.end(gap, false), 0, 0, 2, 12);
        dueAtEachGap("far end", gap -> b.end(gap, true), 2, 12, 14, 14);
        // (0, 1) has none on its right, (0, 1) and (3, 0) have none below, (3, 3) and (5, 3) begin only one or none.
        BridgeBoard c = board(5, 3, 1, 3, 3, 1, 3, 0, 1, 0, 1, 1, 1, 0, 1);
        due("gaps", c.gaps(), 3);
        dueAtEachGap("near end", gap -> c.end(gap, false), 6, 18, 21);
        dueAtEachGap("far end", gap -> c.end(gap, true), 18, 21, 33);
        BridgeBoard row = board(4, 5, 1, 4, 4, 1, 4, 3, 1, 4, 2, 1, 4, 1, 1, 4, 0, 1);
        dueAtEachGap("near end in a full row", gap -> row.end(gap, false), 24, 25, 26, 27, 28, -1);
        BridgeBoard column = board(5, 4, 1, 4, 4, 1, 3, 4, 1, 2, 4, 1, 1, 4, 1, 0, 4, 1);
        dueAtEachGap("near end in a full column", gap -> column.end(gap, false), 4, 10, 16, 22, 28, -1);
    }

    private static void bridgesAreNoneOneOrTwo() {
        about("Terms: a solution gives every gap 0, 1 or 2 bridges");
        for (int number = 1; number <= 8; number++) {
            BridgeBoard pair = board(0, 0, number, 0, 5, number);
            due("pair of " + number, pair.solutions(), number <= 2 ? 1 : 0);
            due("pair of " + number, pair.always(0), number <= 2 ? number : -1);
        }
        BridgeBoard five = fiveSolutions();
        due("0 bridges at gap 0", five.with(0, 0), 1);
        due("1 bridge at gap 0", five.with(0, 1), 2);
        due("2 bridges at gap 0", five.with(0, 2), 2);
    }

    private static void sumsAreTheNumbers() {
        about("Terms: for every island, the sum of the bridges of the gaps that end at it is its number");
        due("one too few on the left", board(0, 0, 1, 0, 5, 2).solutions(), 0);
        due("one too few on the right", board(0, 0, 2, 0, 5, 1).solutions(), 0);
        BridgeBoard eight = board(2, 2, 8, 0, 2, 2, 2, 0, 2, 2, 5, 2, 5, 2, 2);
        due("8 with four arms of 2", eight.solutions(), 1);
        due("7 with four arms of 2", eight.place(2, 2, 7), 5);
        due("7 with four arms of 2", eight.solutions(), 0);
        BridgeBoard seven = board(2, 2, 7, 0, 2, 2, 2, 0, 1, 2, 5, 2, 5, 2, 2);
        due("7 with an arm of 1", seven.solutions(), 1);
        due("an arm more than it can hold", seven.place(2, 0, 3), 5);
        due("an arm more than it can hold", seven.solutions(), 0);
    }

    private static void crossingGapsAreNotBothUsed() {
        about("Terms: of two gaps that have a cell in common, at least one has 0 bridges");
        BridgeBoard either = eitherOfTheCrossing();
        due("either one", either.solutions(), 2);
        dueAtEachGap("least", either::least, 0, 2, 1, 0, 1, 1, 1, 1);
        dueAtEachGap("with 0", gap -> either.with(gap, 0), 1, 0, 1, 1, 0, 1, 0, 0);
        // The only choice that meets these numbers and joins all uses both gaps 1 and 3.
        BridgeBoard both = board(0, 2, 2, 0, 4, 2, 2, 0, 2, 2, 4, 2, 4, 0, 2, 4, 2, 2);
        due("both would be needed", both.solutions(), 0);
        due("both would be needed", both.gaps(), 6);
        BridgeBoard neither = board(0, 0, 2, 0, 1, 2, 0, 2, 2, 1, 0, 2, 1, 2, 1, 2, 0, 2, 2, 1, 1);
        due("neither one", neither.solutions(), 1);
        dueAtEachGap("always", neither::always, 1, 1, 1, 0, 1, 0, 1, 1);
        // An island in the common cell parts both gaps.
        due("island in the crossing", both.place(2, 2, 4), 7);
        due("island in the crossing", both.gaps(), 8);
        due("island in the crossing", both.solutions(), 1);
    }

    private static void crossingsInEveryInnerCell() {
        about("Terms: of two gaps that have a cell in common, at least one has 0 bridges: wherever that cell is");
        for (int row = 1; row <= 4; row++) {
            for (int column = 1; column <= 4; column++) {
                // A ring whose gaps 2 and 3 go through the whole board and meet in the cell.
                BridgeBoard b = board(0, 0, 2, 0, column, 2, row, 0, 2, row, 5, 2, 5, column, 2, 5, 5, 2);
                due("both would be needed", b.solutions(), 0);
                due("without gap 2", b.place(0, column, 1), 6);
                due("without gap 2", b.place(5, column, 1), 6);
                due("without gap 2", b.solutions(), 1);
                dueAtEachGap("without gap 2, always", b::always, 1, 1, 0, 1, 1, 1);
            }
        }
    }

    private static void farLinesHaveNoCellInCommon() {
        about("Terms: of two gaps that have a cell in common, at least one has 0 bridges: side by side they have none");
        for (int top = 0; top < 5; top++) {
            for (int bottom = top + 1; bottom < 6; bottom++) {
                BridgeBoard rows = board(top, 0, 3, top, 5, 3, bottom, 0, 3, bottom, 5, 3);
                due("rows " + top + " and " + bottom, rows.solutions(), 2);
                BridgeBoard columns = board(0, top, 3, 0, bottom, 3, 5, top, 3, 5, bottom, 3);
                due("columns " + top + " and " + bottom, columns.solutions(), 2);
            }
        }
    }

    private static void islandsReachEachOther() {
        about("Terms: every island can be reached from every other over gaps that have at least one bridge");
        due("one island reaches all, but its number is not met", board(3, 3, 1).solutions(), 0);
        due("two islands without a gap", board(0, 0, 1, 1, 1, 1).solutions(), 0);
        due("two pairs without a gap between", board(0, 0, 1, 0, 2, 1, 3, 3, 1, 3, 5, 1).solutions(), 0);
        due("two pairs with unused gaps between", board(0, 0, 1, 0, 2, 1, 2, 0, 1, 2, 2, 1).solutions(), 0);
        BridgeBoard square = board(0, 0, 2, 0, 2, 2, 2, 0, 2, 2, 2, 2);
        due("square of 2: the pairs apart do not count", square.solutions(), 1);
        dueAtEachGap("always", square::always, 1, 1, 1, 1);
        BridgeBoard path = board(0, 2, 1, 4, 2, 2, 4, 0, 2, 2, 0, 2, 2, 1, 2, 1, 1, 2, 1, 0, 1);
        due("seven islands in one path", path.solutions(), 1);
    }

    private static void noIslandAtAll() {
        about("Terms: if there is no island, there is exactly one solution (it has no gap)");
        BridgeBoard b = new BridgeBoard();
        due("new: solutions", b.solutions(), 1);
        due("new: gaps", b.gaps(), 0);
        due("place", b.place(0, 0, 1), 1);
        due("one island: solutions", b.solutions(), 0);
        due("remove", b.remove(0, 0), 0);
        due("emptied: solutions", b.solutions(), 1);
        due("emptied: gaps", b.gaps(), 0);
    }

    private static void leastIsTheFirstInOrder() {
        about("Terms: the fewest bridges to gap 0, among those the fewest to gap 1, and so on");
        // 0 at gap 0 is fewest, though the gaps after it get more bridges than elsewhere.
        dueAtEachGap("five solutions", fiveSolutions()::least, 0, 2, 1, 2, 1, 0, 1, 2);
        // The first four gaps get the same in both.
        dueAtEachGap("late difference", lateDifference()::least, 0, 1, 1, 1, 0, 1, 2, 1);
        // Gap 0 is 1 in both, so gap 1 decides.
        BridgeBoard tail = board(0, 0, 1, 0, 2, 4, 0, 4, 3, 3, 2, 3, 3, 4, 3);
        due("tail first: solutions", tail.solutions(), 2);
        dueAtEachGap("tail first", tail::least, 1, 1, 2, 2, 1);
    }

    private static void eightGapsAreNotCrowded() {
        about("Terms: if there are more than 8 gaps, the board is crowded: 8 gaps are not yet more");
        BridgeBoard[] boards = {fiveSolutions(), lateDifference(), eitherOfTheCrossing()};
        int[] counts = {5, 2, 2};
        for (int i = 0; i < boards.length; i++) {
            BridgeBoard b = boards[i];
            due("gaps", b.gaps(), 8);
            due("solutions", b.solutions(), counts[i]);
            due("all solutions at the last gap", b.with(7, 0) + b.with(7, 1) + b.with(7, 2), counts[i]);
            due("least after the last gap", b.least(8), -1);
            due("always after the last gap", b.always(8), -1);
            due("with after the last gap", b.with(8, 0), -1);
            due("with too many bridges", b.with(7, 3), -1);
        }
        BridgeBoard twoByFour = board(0, 0, 8, 0, 1, 8, 0, 2, 8, 0, 3, 8, 1, 0, 8, 1, 1, 8, 1, 2, 8);
        due("2 by 4: gaps", twoByFour.gaps(), 8);
        due("2 by 4: solutions", twoByFour.solutions(), 0);
        due("2 by 4: with", twoByFour.with(7, 2), 0);
    }

    /**
     * The answer -2 can't be brought about: each row that holds islands has one gap less than islands, and so has each
     * column. Goes through all boards of 7 islands, and asks the class about a share of those with the most gaps.
     */
    private static void noBoardIsCrowded() {
        about("Terms: if there are more than 8 gaps, the board is crowded: no board has more than 8");
        int most = 0;
        int met = 0;
        for (long cells = 127L; cells < 1L << 36; cells = nextOfSameSize(cells)) {
            int gaps = 14 - linesUsed(cells);
            most = Math.max(most, gaps);
            if (gaps >= 8 && met++ % 25 == 0) {
                BridgeBoard b = boardOf(cells);
                due("gaps", b.gaps(), gaps);
                due("solutions of 8s", b.solutions(), 0);
                due("with", b.with(0, 0), 0);
            }
        }
        due("most gaps of 7 islands", most, 8);
    }

    private static long nextOfSameSize(long bits) {
        long lowest = bits & -bits;
        long carried = bits + lowest;
        return ((carried ^ bits) >>> 2) / lowest | carried;
    }

    private static int linesUsed(long cells) {
        int lines = 0;
        for (int i = 0; i < 6; i++) {
            lines += (cells & 63L << 6 * i) != 0 ? 1 : 0;
            lines += (cells & 0x041041041L << i) != 0 ? 1 : 0;
        }
        return lines;
    }

    private static BridgeBoard boardOf(long cells) {
        BridgeBoard b = new BridgeBoard();
        for (int cell = 0; cell < 36; cell++) {
            if ((cells >>> cell & 1L) != 0) {
                b.place(cell / 6, cell % 6, 8);
            }
        }
        return b;
    }

    // ---- Promise 1

    private static void newObject() {
        about("Promise 1: the board holds no island");
        BridgeBoard b = new BridgeBoard();
        for (int cell = 0; cell < 36; cell++) {
            due("island in cell " + cell, b.island(cell / 6, cell % 6), 0);
            due("remove from cell " + cell, b.remove(cell / 6, cell % 6), -1);
        }
        due("gaps", b.gaps(), 0);
        due("solutions", b.solutions(), 1);
        due("end", b.end(0, false), -1);
        due("end", b.end(0, true), -1);
        due("least", b.least(0), -1);
        due("always", b.always(0), -1);
        due("with", b.with(0, 0), -1);
        due("first island", b.place(5, 5, 1), 1);
        due("another new object", new BridgeBoard().island(5, 5), 0);
    }

    // ---- Promise 2

    private static void place() {
        placeInPlaceOfAnother();
        placeOffTheBoard();
        placeBadNumbers();
        placeWhenFull();
        placeAnswersTheCount();
    }

    private static void placeInPlaceOfAnother() {
        about("Promise 2: puts an island into the cell, in place of one that may be there");
        BridgeBoard b = squareOfThrees();
        due("other number", b.place(0, 0, 8), 4);
        due("other number", b.island(0, 0), 8);
        due("solutions follow", b.solutions(), 0);
        due("gaps stay", b.gaps(), 4);
        due("old number", b.place(0, 0, 3), 4);
        due("solutions follow", b.solutions(), 2);
        due("same number", b.place(0, 0, 3), 4);
        due("solutions stay", b.solutions(), 2);
    }

    private static void placeOffTheBoard() {
        about("Promise 2: -1 and changes nothing if row or column is not from 0 to 5");
        for (int bad : OFF_BOARD) {
            refused("place(" + bad + ", 0, 3)", squareOfThrees(), b -> b.place(bad, 0, 3));
            refused("place(0, " + bad + ", 3)", squareOfThrees(), b -> b.place(0, bad, 3));
            refused("place(" + bad + ", " + bad + ", 3)", squareOfThrees(), b -> b.place(bad, bad, 3));
        }
        // 6 * row + column would be a cell of the board.
        refused("place(1, -6, 1)", squareOfThrees(), b -> b.place(1, -6, 1));
        refused("place(-1, 6, 1)", squareOfThrees(), b -> b.place(-1, 6, 1));
        refused("place(0, 35, 1)", squareOfThrees(), b -> b.place(0, 35, 1));
    }

    private static void placeBadNumbers() {
        about("Promise 2: -1 and changes nothing if number is not from 1 to 8");
        for (int bad : BAD_NUMBERS) {
            refused("place in an empty cell " + bad, squareOfThrees(), b -> b.place(1, 1, bad));
            refused("place in a held cell " + bad, squareOfThrees(), b -> b.place(0, 0, bad));
            refused("place on a full board " + bad, fiveSolutions(), b -> b.place(0, 0, bad));
        }
        due("lowest number", squareOfThrees().place(1, 1, 1), 5);
        due("highest number", squareOfThrees().place(1, 1, 8), 5);
    }

    private static void placeWhenFull() {
        about("Promise 2: -1 and changes nothing if the cell holds no island and 7 islands are held");
        for (int cell = 0; cell < 36; cell++) {
            int row = cell / 6;
            int column = cell % 6;
            if (fiveSolutions().island(row, column) == 0) {
                refused("eighth island in cell " + cell, fiveSolutions(), b -> b.place(row, column, 1));
            } else {
                due("another number in cell " + cell, fiveSolutions().place(row, column, 1), 7);
            }
        }
        BridgeBoard b = fiveSolutions();
        due("a held cell", b.place(2, 2, 4), 7);
        due("a held cell", b.island(2, 2), 4);
        due("make room", b.remove(2, 2), 6);
        due("the cell just left", b.place(3, 3, 4), 7);
        due("full again", b.place(2, 2, 4), -1);
    }

    private static void placeAnswersTheCount() {
        about("Promise 2: otherwise answers how many islands are held then");
        BridgeBoard b = new BridgeBoard();
        for (int count = 1; count <= 7; count++) {
            int row = (count - 1) / 2;
            int column = count % 2 * 5;
            due("island " + count, b.place(row, column, count), count);
            due("in place of it", b.place(row, column, 8), count);
            due("a refused one does not count", b.place(row, 6, 1), -1);
            due("nor one that is taken out", b.remove(row, column), count - 1);
            due("put back", b.place(row, column, count), count);
        }
    }

    // ---- Promise 3

    private static void remove() {
        about("Promise 3: -1 and changes nothing if row or column is not from 0 to 5");
        for (int bad : OFF_BOARD) {
            refused("remove(" + bad + ", 0)", squareOfThrees(), b -> b.remove(bad, 0));
            refused("remove(0, " + bad + ")", squareOfThrees(), b -> b.remove(0, bad));
            refused("remove(" + bad + ", " + bad + ")", squareOfThrees(), b -> b.remove(bad, bad));
        }
        // 6 * row + column would be a cell with an island.
        refused("remove(1, -6)", squareOfThrees(), b -> b.remove(1, -6));
        refused("remove(0, 18)", squareOfThrees(), b -> b.remove(0, 18));
        refused("remove(-1, 6)", squareOfThrees(), b -> b.remove(-1, 6));

        about("Promise 3: -1 and changes nothing if the cell holds no island");
        refused("from a new board", new BridgeBoard(), b -> b.remove(0, 0));
        refused("from between the islands", squareOfThrees(), b -> b.remove(0, 1));
        refused("from a full board", fiveSolutions(), b -> b.remove(5, 5));
        BridgeBoard once = squareOfThrees();
        due("once", once.remove(3, 3), 3);
        refused("twice", once, b -> b.remove(3, 3));

        about("Promise 3: takes the island out; answers how many islands are held then");
        BridgeBoard b = fiveSolutions();
        int[] cells = {7, 14, 0, 12, 1, 6, 2};
        for (int i = 0; i < 7; i++) {
            due("remove cell " + cells[i], b.remove(cells[i] / 6, cells[i] % 6), 6 - i);
            due("cell " + cells[i], b.island(cells[i] / 6, cells[i] % 6), 0);
        }
        due("the last one leaves the empty board", b.solutions(), 1);
        BridgeBoard joined = board(0, 0, 2, 0, 2, 4, 0, 5, 2);
        due("before: gaps", joined.gaps(), 2);
        due("the one in the middle", joined.remove(0, 2), 2);
        due("after: the gaps are one", joined.gaps(), 1);
        due("after: solutions follow", joined.always(0), 2);
    }

    // ---- Promise 4

    private static void island() {
        about("Promise 4: 0 if the cell holds no island");
        BridgeBoard b = board(0, 0, 1, 5, 5, 8);
        due("empty cell", b.island(0, 5), 0);
        due("empty cell", b.island(5, 0), 0);
        due("lowest number", b.island(0, 0), 1);
        due("highest number", b.island(5, 5), 8);

        about("Promise 4: -1 if row or column is not from 0 to 5");
        for (int bad : OFF_BOARD) {
            refused("island(" + bad + ", 0)", squareOfThrees(), s -> s.island(bad, 0));
            refused("island(0, " + bad + ")", squareOfThrees(), s -> s.island(0, bad));
            refused("island(" + bad + ", " + bad + ")", squareOfThrees(), s -> s.island(bad, bad));
        }
        // 6 * row + column would be a cell with an island.
        due("island(1, -6)", b.island(1, -6), -1);
        due("island(0, 35)", b.island(0, 35), -1);
        due("island(6, -1)", b.island(6, -1), -1);
    }

    // ---- Promise 5

    private static void gaps() {
        about("Promise 5: the number of gaps, from none to 8");
        due("none", new BridgeBoard().gaps(), 0);
        BridgeBoard b = new BridgeBoard();
        int[] cells = {0, 1, 2, 6, 7, 12, 14};
        int[] want = {0, 1, 2, 3, 5, 6, 8};
        for (int i = 0; i < 7; i++) {
            due("place", b.place(cells[i] / 6, cells[i] % 6, 1), i + 1);
            due("gaps of " + (i + 1) + " islands", b.gaps(), want[i]);
        }
        due("an eighth island is refused", b.place(2, 1, 1), -1);
        due("gaps stay", b.gaps(), 8);
        for (int i = 6; i >= 0; i--) {
            due("gaps of " + (i + 1) + " islands", b.gaps(), want[i]);
            due("remove", b.remove(cells[i] / 6, cells[i] % 6), i);
        }
        due("none again", b.gaps(), 0);
        BridgeBoard slant = board(0, 0, 1, 1, 1, 1, 2, 2, 1, 3, 3, 1, 4, 4, 1, 5, 5, 1);
        due("six islands, no two in line", slant.gaps(), 0);
        due("the seventh is in line with two", slant.place(0, 5, 1), 7);
        due("the seventh is in line with two", slant.gaps(), 2);
    }

    // ---- Promise 6

    private static void end() {
        about("Promise 6: further left or higher up if far is false, the other end if it is true");
        BridgeBoard corners = board(5, 5, 1, 5, 0, 1, 0, 5, 1, 0, 0, 1);
        dueAtEachGap("near end", gap -> corners.end(gap, false), 0, 0, 5, 30);
        dueAtEachGap("far end", gap -> corners.end(gap, true), 5, 30, 35, 35);
        // Without a solution the gaps still have their ends.
        due("no solution", corners.place(0, 0, 8), 4);
        due("no solution", corners.solutions(), 0);
        due("no solution", corners.end(3, true), 35);

        about("Promise 6: -1 if gap is not the number of a gap");
        for (boolean far : new boolean[] {false, true}) {
            refused("end on a new board", new BridgeBoard(), b -> b.end(0, far));
            refused("end beside one island", board(0, 0, 1), b -> b.end(0, far));
            for (int bad : noGaps(4)) {
                refused("end(" + bad + ", " + far + ")", squareOfThrees(), b -> b.end(bad, far));
            }
            for (int bad : noGaps(8)) {
                refused("end(" + bad + ", " + far + ")", fiveSolutions(), b -> b.end(bad, far));
            }
            BridgeBoard fewer = fiveSolutions();
            due("the last gap", fewer.end(7, far), far ? 14 : 12);
            due("a gap goes", fewer.remove(2, 2), 6);
            due("a gap that was there", fewer.end(7, far), -1);
            due("a gap that was there", fewer.end(6, far), -1);
            due("the last gap now", fewer.end(5, far), far ? 12 : 6);
        }
    }

    // ---- Promise 7

    private static void solutions() {
        about("Promise 7: the number of solutions, from none up");
        due("no island", new BridgeBoard().solutions(), 1);
        due("one island", board(0, 0, 1).solutions(), 0);
        due("pair", board(0, 0, 2, 0, 1, 2).solutions(), 1);
        due("square", squareOfThrees().solutions(), 2);
        due("8 gaps", fiveSolutions().solutions(), 5);
        BridgeBoard b = squareOfThrees();
        due("none after a change", b.place(3, 3, 4), 4);
        due("none after a change", b.solutions(), 0);
        due("again", b.place(3, 3, 3), 4);
        due("again", b.solutions(), 2);
        due("asked twice", b.solutions(), 2);
    }

    // ---- Promise 8

    private static void least() {
        about("Promise 8: -1 if gap is not the number of a gap");
        refused("least on a new board, which has a solution", new BridgeBoard(), b -> b.least(0));
        for (int bad : noGaps(4)) {
            refused("least(" + bad + ")", squareOfThrees(), b -> b.least(bad));
        }
        for (int bad : noGaps(8)) {
            refused("least(" + bad + ")", fiveSolutions(), b -> b.least(bad));
        }
        BridgeBoard fewer = lateDifference();
        due("a gap goes", fewer.remove(1, 3), 6);
        due("one island less to hold", fewer.place(1, 1, 1), 6);
        due("solutions", fewer.solutions(), 2);
        dueAtEachGap("least", fewer::least, 0, 1, 1, 0, 1, 2, 1, -1);

        about("Promise 8: -1 if there is no solution");
        BridgeBoard none = squareOfThrees();
        due("a solution", none.least(0), 1);
        due("no solution", none.place(0, 0, 8), 4);
        dueAtEachGap("least", none::least, -1, -1, -1, -1, -1);
        due("before gap 0", none.least(-1), -1);
        due("a solution again", none.place(0, 0, 3), 4);
        dueAtEachGap("least", none::least, 1, 2, 2, 1, -1);
    }

    // ---- Promise 9

    private static void always() {
        about("Promise 9: the bridges of the gap if all solutions give it the same");
        dueAtEachGap("always, from 0 to 2", board(0, 0, 2, 0, 1, 3, 0, 2, 1, 1, 0, 2, 1, 1, 3, 1, 2, 1)::always,
            1, 1, 1, 1, 0, 1, 1);
        due("always 2", board(0, 0, 2, 0, 1, 2).always(0), 2);
        BridgeBoard late = lateDifference();
        dueAtEachGap("always, of two solutions", late::always, 0, 1, 1, 1, -1, -1, -1, -1);

        about("Promise 9: -1 if gap is not the number of a gap");
        refused("always on a new board, which has a solution", new BridgeBoard(), b -> b.always(0));
        for (int bad : noGaps(4)) {
            refused("always(" + bad + ")", board(0, 0, 4, 0, 3, 4, 3, 0, 4, 3, 3, 4), b -> b.always(bad));
        }
        for (int bad : noGaps(8)) {
            refused("always(" + bad + ")", lateDifference(), b -> b.always(bad));
        }

        about("Promise 9: -1 if there is no solution");
        due("a solution", late.always(0), 0);
        due("no solution", late.place(1, 3, 2), 7);
        dueAtEachGap("always", late::always, -1, -1, -1, -1, -1, -1, -1, -1, -1);

        about("Promise 9: -1 if two solutions differ there");
        dueAtEachGap("two solutions", squareOfThrees()::always, -1, -1, -1, -1);
        // Most of the five agree at some gaps, but not all.
        dueAtEachGap("five solutions", fiveSolutions()::always, -1, -1, -1, -1, -1, -1, -1, -1);
    }

    // ---- Promise 10

    private static void with() {
        about("Promise 10: how many solutions give the gap that many bridges");
        BridgeBoard five = fiveSolutions();
        dueAtEachGap("with 0", gap -> five.with(gap, 0), 1, 2, 2, 1, 0, 2, 0, 0);
        dueAtEachGap("with 1", gap -> five.with(gap, 1), 2, 2, 3, 2, 3, 2, 3, 2);
        dueAtEachGap("with 2", gap -> five.with(gap, 2), 2, 1, 0, 2, 2, 1, 2, 3);
        BridgeBoard none = squareOfThrees();
        due("no solution", none.place(0, 0, 8), 4);
        for (int bridges = 0; bridges <= 2; bridges++) {
            int count = bridges;
            dueAtEachGap("no solution is 0, not -1", gap -> none.with(gap, count), 0, 0, 0, 0, -1);
        }

        about("Promise 10: -1 if gap is not the number of a gap");
        refused("with on a new board, which has a solution", new BridgeBoard(), b -> b.with(0, 0));
        for (int bad : noGaps(4)) {
            refused("with(" + bad + ", 1)", squareOfThrees(), b -> b.with(bad, 1));
        }
        for (int bad : noGaps(8)) {
            refused("with(" + bad + ", 2)", fiveSolutions(), b -> b.with(bad, 2));
        }

        about("Promise 10: -1 if bridges is not from 0 to 2");
        for (int bad : BAD_BRIDGES) {
            for (int gap = 0; gap < 8; gap++) {
                due("with(" + gap + ", " + bad + ")", five.with(gap, bad), -1);
            }
            due("both wrong", five.with(8, bad), -1);
            due("without a solution", none.with(0, bad), -1);
            refused("with(3, " + bad + ")", squareOfThrees(), b -> b.with(3, bad));
        }
    }

    // ---- Promise 11

    private static void orderAndLimits() {
        about("Promise 11: a call that is refused changes nothing");
        BridgeBoard b = fiveSolutions();
        String before = state(b);
        for (int bad : OFF_BOARD) {
            due("place", b.place(bad, 0, 1), -1);
            due("place", b.place(0, bad, 1), -1);
            due("remove", b.remove(bad, 0), -1);
            due("remove", b.remove(0, bad), -1);
            due("island", b.island(bad, 0), -1);
            due("island", b.island(0, bad), -1);
        }
        for (int bad : BAD_NUMBERS) {
            due("place", b.place(0, 0, bad), -1);
        }
        for (int bad : noGaps(8)) {
            due("end", b.end(bad, true), -1);
            due("least", b.least(bad), -1);
            due("always", b.always(bad), -1);
            due("with", b.with(bad, 0), -1);
        }
        due("place an eighth", b.place(5, 5, 1), -1);
        due("remove none", b.remove(5, 5), -1);
        due("all refused in a row changed nothing", state(b).equals(before) ? 1 : 0, 1);

        about("What it is: an object is used for at most 512 calls");
        BridgeBoard old = squareOfThrees();
        for (int call = 4; call < 508; call += 2) {
            due("call " + (call + 1), old.remove(3, 3), 3);
            due("call " + (call + 2), old.place(3, 3, 3), 4);
        }
        due("call 509", old.island(3, 3), 3);
        due("call 510", old.least(3), 1);
        due("call 511", old.end(3, true), 21);
        due("call 512", old.solutions(), 2);
    }
}
