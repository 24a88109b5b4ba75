/** Each promise of the document by hand-made examples: ordinary inputs, the named edges and wrong inputs. */
public final class PromiseTest {
    private static final int[] OUTSIDE = {-1, 6, 7, -6, 36, Integer.MIN_VALUE, Integer.MAX_VALUE};
    private static int wrong = 0;

    public static void main(String[] args) {
        newObject();
        place();
        placeRefusals();
        remove();
        island();
        gaps();
        end();
        solutions();
        solutionsNeedJoinedIslands();
        solutionsNeedUncrossedBridges();
        least();
        always();
        with();
        orderAndLimits();
        densestBoardIsNotCrowded();
        objectsAreApart();
        System.out.println(wrong == 0 ? "all answers are as due" : wrong + " answers are not as due");
        if (wrong != 0) {
            System.exit(1);
        }
    }

    private static void due(String what, int got, int want) {
        if (got != want) {
            wrong++;
            System.out.println(what + " answered " + got + ", due is " + want);
        }
    }

    /** A board from triples of row, column and number. */
    private static BridgeBoard board(int... islands) {
        BridgeBoard board = new BridgeBoard();
        for (int i = 0; i < islands.length; i += 3) {
            due("building: place", board.place(islands[i], islands[i + 1], islands[i + 2]), i / 3 + 1);
        }
        return board;
    }

    private static BridgeBoard square(int number) {
        return board(0, 0, number, 0, 3, number, 3, 0, number, 3, 3, number);
    }

    /** Two solutions, 1 2 1 2 1 and 2 1 1 1 2. */
    private static BridgeBoard squareWithTail() {
        return board(0, 0, 3, 0, 3, 4, 0, 5, 1, 3, 0, 3, 3, 3, 3);
    }

    private static BridgeBoard fullBoard() {
        return board(0, 0, 1, 0, 2, 2, 0, 4, 3, 2, 0, 4, 2, 2, 5, 2, 4, 6, 4, 0, 8);
    }

    private static void newObject() {
        BridgeBoard b = new BridgeBoard();
        for (int row = 0; row < 6; row++) {
            for (int column = 0; column < 6; column++) {
                due("P1: island(" + row + ", " + column + ")", b.island(row, column), 0);
            }
        }
        due("P1: gaps", b.gaps(), 0);
        due("P1: solutions", b.solutions(), 1);
        due("P1: end", b.end(0, false), -1);
        due("P1: least", b.least(0), -1);
        due("P1: always", b.always(0), -1);
        due("P1: with", b.with(0, 0), -1);
        due("P1: remove", b.remove(0, 0), -1);
        due("P1: place", b.place(0, 0, 1), 1);
    }

    private static void place() {
        BridgeBoard b = new BridgeBoard();
        for (int number = 1; number <= 8; number++) {
            due("P2: place anew", b.place(5, 5, number), 1);
            due("P2: number", b.island(5, 5), number);
        }
        due("P2: corner", b.place(0, 0, 8), 2);
        due("P2: corner", b.place(0, 5, 1), 3);
        due("P2: corner", b.place(5, 0, 2), 4);
        due("P2: fifth", b.place(2, 3, 3), 5);
        due("P2: sixth", b.place(3, 2, 4), 6);
        due("P2: seventh", b.place(2, 2, 5), 7);
        due("P2: eighth", b.place(3, 3, 5), -1);
        due("P2: eighth is not there", b.island(3, 3), 0);
        due("P2: another number when full", b.place(2, 2, 6), 7);
        due("P2: another number when full", b.island(2, 2), 6);
        due("P2: the same number when full", b.place(2, 2, 6), 7);
        due("P2: row and column are not mixed up", b.island(2, 3), 3);
        due("P2: row and column are not mixed up", b.island(3, 2), 4);
        due("P2: remove makes room", b.remove(2, 2), 6);
        due("P2: room again", b.place(3, 3, 5), 7);
        due("P2: full again", b.place(2, 2, 5), -1);
    }

    private static void placeRefusals() {
        BridgeBoard b = board(1, 1, 4);
        for (int bad : OUTSIDE) {
            due("P2: row " + bad, b.place(bad, 1, 3), -1);
            due("P2: column " + bad, b.place(1, bad, 3), -1);
        }
        for (int bad : new int[] {0, 9, -1, -8, Integer.MIN_VALUE, Integer.MAX_VALUE}) {
            due("P2: number " + bad, b.place(1, 1, bad), -1);
            due("P2: number " + bad, b.place(2, 2, bad), -1);
            due("P2: no island by number " + bad, b.island(2, 2), 0);
        }
        due("P2: kept", b.island(1, 1), 4);
        due("P2: refused ones do not count", b.place(4, 4, 1), 2);
    }

    private static void remove() {
        BridgeBoard b = fullBoard();
        due("P3: no island", b.remove(1, 1), -1);
        for (int bad : OUTSIDE) {
            due("P3: row " + bad, b.remove(bad, 0), -1);
            due("P3: column " + bad, b.remove(0, bad), -1);
        }
        due("P3: remove", b.remove(2, 2), 6);
        due("P3: gone", b.island(2, 2), 0);
        due("P3: twice", b.remove(2, 2), -1);
        due("P3: others stay", b.island(2, 0), 4);
        due("P3: remove", b.remove(0, 0), 5);
        due("P3: remove", b.remove(0, 2), 4);
        due("P3: remove", b.remove(0, 4), 3);
        due("P3: remove", b.remove(2, 0), 2);
        due("P3: remove", b.remove(2, 4), 1);
        due("P3: last", b.remove(4, 0), 0);
        due("P3: empty again", b.solutions(), 1);
        due("P3: empty again", b.gaps(), 0);
        due("P3: empty again", b.remove(4, 0), -1);
    }

    private static void island() {
        BridgeBoard b = board(1, 4, 7, 5, 5, 8);
        due("P4: number", b.island(1, 4), 7);
        due("P4: last cell", b.island(5, 5), 8);
        due("P4: none", b.island(4, 1), 0);
        for (int bad : OUTSIDE) {
            due("P4: row " + bad, b.island(bad, 4), -1);
            due("P4: column " + bad, b.island(1, bad), -1);
            due("P4: both " + bad, b.island(bad, bad), -1);
        }
        due("P4: column 6 is not the next row", b.island(4, 11), -1);
    }

    private static void gaps() {
        due("P5: one island", board(2, 2, 1).gaps(), 0);
        due("P5: not in line", board(2, 2, 1, 3, 3, 1).gaps(), 0);
        due("P5: end of a row and start of the next", board(2, 5, 1, 3, 0, 1).gaps(), 0);
        due("P5: neighbours", board(2, 2, 1, 2, 3, 1).gaps(), 1);
        due("P5: neighbours", board(2, 2, 1, 3, 2, 1).gaps(), 1);
        due("P5: whole row", board(4, 0, 1, 4, 5, 1).gaps(), 1);
        due("P5: whole column", board(0, 4, 1, 5, 4, 1).gaps(), 1);
        due("P5: an island between", board(0, 0, 1, 0, 5, 1, 0, 2, 1).gaps(), 2);
        due("P5: full row", board(3, 0, 1, 3, 1, 1, 3, 2, 1, 3, 3, 1, 3, 4, 1, 3, 5, 1).gaps(), 5);
        due("P5: square", square(2).gaps(), 4);
        due("P5: seven islands", fullBoard().gaps(), 8);
        BridgeBoard b = board(0, 0, 1, 0, 2, 1, 0, 4, 1);
        due("P5: before", b.gaps(), 2);
        due("P5: take the middle", b.remove(0, 2), 2);
        due("P5: after", b.gaps(), 1);
    }

    private static void end() {
        // Placed out of order, for the order of gaps is that of the cells.
        BridgeBoard b = board(4, 0, 1, 2, 4, 1, 0, 4, 1, 2, 0, 1, 0, 0, 1, 0, 2, 1, 4, 2, 1);
        int[] near = {0, 0, 2, 2, 4, 12, 12, 24};
        int[] far = {2, 12, 4, 26, 16, 16, 24, 26};
        due("P6: gaps", b.gaps(), 8);
        for (int gap = 0; gap < 8; gap++) {
            due("P6: end(" + gap + ", false)", b.end(gap, false), near[gap]);
            due("P6: end(" + gap + ", true)", b.end(gap, true), far[gap]);
        }
        for (int bad : new int[] {-1, 8, 9, 13, 14, 100, Integer.MIN_VALUE, Integer.MAX_VALUE}) {
            due("P6: end(" + bad + ", false)", b.end(bad, false), -1);
            due("P6: end(" + bad + ", true)", b.end(bad, true), -1);
        }
        due("P6: take one", b.remove(0, 0), 6);
        due("P6: gaps move up", b.end(0, false), 2);
        due("P6: gaps move up", b.end(0, true), 4);
        due("P6: fewer gaps", b.end(6, false), -1);
        BridgeBoard corner = board(5, 0, 1, 5, 5, 1, 0, 5, 1);
        due("P6: right side", corner.end(0, false), 5);
        due("P6: right side", corner.end(0, true), 35);
        due("P6: bottom", corner.end(1, false), 30);
        due("P6: bottom", corner.end(1, true), 35);
    }

    private static void solutions() {
        for (int number = 1; number <= 8; number++) {
            due("P7: one island", board(3, 3, number).solutions(), 0);
            int pair = board(1, 1, number, 1, 4, number).solutions();
            due("P7: pair of " + number, pair, number <= 2 ? 1 : 0);
        }
        due("P7: unequal pair", board(1, 1, 1, 1, 4, 2).solutions(), 0);
        due("P7: neighbours", board(1, 1, 2, 2, 1, 2).solutions(), 1);
        due("P7: row of three", board(0, 0, 1, 0, 1, 3, 0, 5, 2).solutions(), 1);
        due("P7: square of 1", square(1).solutions(), 0);
        due("P7: square of 3", square(3).solutions(), 2);
        due("P7: square of 4", square(4).solutions(), 1);
        due("P7: square of 5", square(5).solutions(), 0);
        due("P7: square with tail", squareWithTail().solutions(), 2);
        due("P7: cross of 8", board(2, 2, 8, 0, 2, 2, 2, 0, 2, 2, 5, 2, 5, 2, 2).solutions(), 1);
        due("P7: cross of 7", board(2, 2, 7, 0, 2, 2, 2, 0, 1, 2, 5, 2, 5, 2, 2).solutions(), 1);
        due("P7: 8 gaps", twoSquares().solutions(), 4);
        BridgeBoard b = square(3);
        due("P7: another number", b.place(0, 0, 4), 4);
        due("P7: after another number", b.solutions(), 0);
        due("P7: the old number", b.place(0, 0, 3), 4);
        due("P7: after the old number", b.solutions(), 2);
    }

    /** Two squares with a corner in common: 8 gaps, and each square has its two solutions, 1 2 2 1 and 2 1 1 2. */
    private static BridgeBoard twoSquares() {
        return board(0, 0, 3, 0, 2, 3, 2, 0, 3, 2, 2, 6, 2, 4, 3, 4, 2, 3, 4, 4, 3);
    }

    /** A ring with two solutions, 1 2 2 1 1 2 and 2 1 1 2 2 1: the first and the last gap are at odds. */
    private static BridgeBoard ringAtOdds() {
        return board(0, 0, 3, 0, 4, 3, 1, 4, 3, 2, 0, 3, 4, 0, 3, 4, 4, 3);
    }

    private static void solutionsNeedJoinedIslands() {
        due("P7: two pairs apart", board(0, 0, 1, 0, 2, 1, 3, 3, 1, 3, 5, 1).solutions(), 0);
        due("P7: two pairs side by side", board(0, 0, 2, 0, 2, 2, 1, 0, 2, 1, 2, 2).solutions(), 1);
        due("P7: square of 2", square(2).solutions(), 1);
        due("P7: square of 2", square(2).least(0), 1);
        due("P7: lone island", board(0, 0, 1, 0, 2, 1, 3, 3, 1).solutions(), 0);
        // Joined only from the far end back to the first island.
        BridgeBoard snake = board(0, 2, 1, 4, 2, 2, 4, 0, 2, 2, 0, 2, 2, 1, 2, 1, 1, 2, 1, 0, 1);
        due("P7: snake", snake.solutions(), 1);
    }

    private static void solutionsNeedUncrossedBridges() {
        // A ring whose gaps 1 and 3 cross in (2, 2).
        BridgeBoard ring = board(0, 2, 2, 0, 4, 2, 2, 0, 2, 2, 4, 2, 4, 0, 2, 4, 2, 2);
        due("P7: crossing ring", ring.gaps(), 6);
        due("P7: crossing ring", ring.solutions(), 0);
        due("P7: open ring", ring.place(0, 2, 1), 6);
        due("P7: open ring", ring.place(4, 2, 1), 6);
        due("P7: open ring", ring.solutions(), 1);
        due("P7: open ring", ring.always(1), 0);
        due("P7: open ring", ring.always(3), 1);
        // The same ring with an island in the crossing: then nothing crosses.
        due("P7: island in the crossing", ring.place(2, 2, 4), 7);
        due("P7: island in the crossing", ring.place(0, 2, 2), 7);
        due("P7: island in the crossing", ring.place(4, 2, 2), 7);
        due("P7: island in the crossing", ring.gaps(), 8);
        due("P7: island in the crossing", ring.solutions(), 1);
        due("P7: island in the crossing", ring.always(3), 1);
    }

    private static void least() {
        BridgeBoard b = squareWithTail();
        int[] want = {1, 2, 1, 2, 1};
        for (int gap = 0; gap < 5; gap++) {
            due("P8: least(" + gap + ")", b.least(gap), want[gap]);
        }
        for (int bad : new int[] {-1, 5, 6, 14, Integer.MIN_VALUE, Integer.MAX_VALUE}) {
            due("P8: least(" + bad + ")", b.least(bad), -1);
        }
        due("P8: no solution", b.place(0, 5, 2), 5);
        for (int gap = -1; gap < 6; gap++) {
            due("P8: without solution, least(" + gap + ")", b.least(gap), -1);
        }
        due("P8: solution again", b.place(0, 5, 1), 5);
        due("P8: solution again", b.least(1), 2);
        int[] ofTwo = {1, 2, 2, 1, 1, 2, 2, 1};
        BridgeBoard two = twoSquares();
        for (int gap = 0; gap < 8; gap++) {
            due("P8: two squares, least(" + gap + ")", two.least(gap), ofTwo[gap]);
        }
        int[] ofRing = {1, 2, 2, 1, 1, 2};
        BridgeBoard ring = ringAtOdds();
        for (int gap = 0; gap < 6; gap++) {
            due("P8: ring, least(" + gap + ")", ring.least(gap), ofRing[gap]);
        }
        BridgeBoard bars = board(0, 0, 1, 0, 1, 3, 0, 2, 1, 1, 0, 1, 1, 1, 3, 1, 2, 1);
        due("P8: none", bars.least(1), 0);
        due("P8: one", bars.least(3), 1);
    }

    private static void always() {
        BridgeBoard b = squareWithTail();
        int[] want = {-1, -1, 1, -1, -1};
        for (int gap = 0; gap < 5; gap++) {
            due("P9: always(" + gap + ")", b.always(gap), want[gap]);
        }
        for (int bad : new int[] {-1, 5, 6, 14, Integer.MIN_VALUE, Integer.MAX_VALUE}) {
            due("P9: always(" + bad + ")", b.always(bad), -1);
        }
        due("P9: no solution", b.place(0, 5, 2), 5);
        due("P9: no solution", b.always(2), -1);
        due("P9: two", square(4).always(3), 2);
        BridgeBoard ladder = board(0, 0, 2, 0, 1, 3, 0, 2, 1, 1, 0, 2, 1, 1, 3, 1, 2, 1);
        due("P9: a gap that is never used", ladder.always(4), 0);
    }

    private static void with() {
        BridgeBoard b = squareWithTail();
        int[] want = {0, 1, 1, 0, 1, 1, 0, 2, 0, 0, 1, 1, 0, 1, 1};
        for (int i = 0; i < 15; i++) {
            due("P10: with(" + i / 3 + ", " + i % 3 + ")", b.with(i / 3, i % 3), want[i]);
        }
        for (int bad : new int[] {-1, 5, 6, 14, Integer.MIN_VALUE, Integer.MAX_VALUE}) {
            due("P10: with(" + bad + ", 1)", b.with(bad, 1), -1);
        }
        for (int bad : new int[] {-1, 3, 4, Integer.MIN_VALUE, Integer.MAX_VALUE}) {
            due("P10: with(0, " + bad + ")", b.with(0, bad), -1);
            due("P10: with(4, " + bad + ")", b.with(4, bad), -1);
        }
        BridgeBoard two = twoSquares();
        for (int gap = 0; gap < 8; gap++) {
            due("P10: two squares, with(" + gap + ", 0)", two.with(gap, 0), 0);
            due("P10: two squares, with(" + gap + ", 1)", two.with(gap, 1), 2);
            due("P10: two squares, with(" + gap + ", 2)", two.with(gap, 2), 2);
        }
        due("P10: no solution", b.place(0, 5, 2), 5);
        due("P10: no solution", b.with(2, 1), 0);
        due("P10: no solution", b.with(0, 3), -1);
        due("P10: no solution", b.with(5, 0), -1);
    }

    private static void orderAndLimits() {
        BridgeBoard b = square(3);
        String before = state(b);
        b.place(-1, 0, 1);
        b.place(0, 6, 1);
        b.place(0, 0, 0);
        b.place(0, 0, 9);
        b.place(1, 1, -3);
        b.remove(1, 1);
        b.remove(6, 0);
        b.island(-1, -1);
        b.end(4, true);
        b.least(4);
        b.always(0);
        b.with(0, 3);
        same("P11: refused calls", state(b), before);
        BridgeBoard full = fullBoard();
        before = state(full);
        full.place(5, 5, 1);
        full.place(1, 0, 8);
        full.remove(5, 5);
        same("P11: refused calls when full", state(full), before);
        BridgeBoard asked = squareWithTail();
        before = state(asked);
        same("P11: asking changes nothing", state(asked), before);
    }

    /** 7 islands in R rows and C columns make 14 - R - C gaps, and R * C is 7 or more: never over 8 gaps. */
    private static void densestBoardIsNotCrowded() {
        BridgeBoard b = board(0, 0, 2, 0, 1, 3, 0, 2, 3, 0, 3, 2, 1, 0, 2, 1, 1, 3, 1, 2, 2);
        due("P5: densest, 2 by 4", b.gaps(), 8);
        due("P7: exactly 8 gaps is not crowded", b.with(8, 0), -1);
        due("P7: exactly 8 gaps is not crowded", b.with(0, 3), -1);
        due("P7: exactly 8 gaps is not crowded", b.least(8), -1);
        due("P7: exactly 8 gaps is not crowded", b.always(8), -1);
        due("P7: exactly 8 gaps is not crowded", b.solutions() < 0 ? 1 : 0, 0);
    }

    private static void objectsAreApart() {
        BridgeBoard a = square(3);
        BridgeBoard b = new BridgeBoard();
        due("P1: a new object beside another", b.island(0, 0), 0);
        due("P1: a new object beside another", b.place(5, 5, 1), 1);
        due("P1: the other object", a.island(5, 5), 0);
        due("P1: the other object", a.solutions(), 2);
    }

    private static void same(String what, String got, String want) {
        if (!got.equals(want)) {
            wrong++;
            System.out.println(what + ": state is " + got + ", due is " + want);
        }
    }

    private static String state(BridgeBoard b) {
        StringBuilder text = new StringBuilder();
        for (int cell = 0; cell < 36; cell++) {
            text.append(b.island(cell / 6, cell % 6));
        }
        text.append(" gaps ").append(b.gaps()).append(" solutions ").append(b.solutions());
        for (int gap = 0; gap < b.gaps(); gap++) {
            text.append(" | ").append(b.end(gap, false)).append(' ').append(b.end(gap, true));
            text.append(' ').append(b.least(gap)).append(' ').append(b.always(gap));
            for (int bridges = 0; bridges <= 2; bridges++) {
                text.append(' ').append(b.with(gap, bridges));
            }
        }
        return text.toString();
    }
}
