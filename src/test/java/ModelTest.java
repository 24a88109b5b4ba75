import java.util.ArrayList;
import java.util.List;

/** Long runs of calls, each answer compared with a slow model that follows the document's terms word by word. */
public final class ModelTest {
    private static final int RUNS = 1500;
    private static final int CALLS = 500;
    private static int wrong = 0;
    private static int solvable = 0;
    private static int manySolutions = 0;
    private static long seed = 20261115L;

    private final BridgeBoard board = new BridgeBoard();
    private final int[][] model = new int[6][6];
    private int calls = 0;
    private List<int[]> gaps = new ArrayList<>();
    private List<int[]> solutions = new ArrayList<>();

    public static void main(String[] args) {
        for (int run = 0; run < RUNS && wrong == 0; run++) {
            new ModelTest().run();
        }
        System.out.println(solvable + " boards with a solution, " + manySolutions + " with several");
        if (solvable < 1000 || manySolutions < 100) {
            wrong++;
            System.out.println("the runs meet too few boards with solutions");
        }
        System.out.println(wrong == 0 ? "all answers are as due" : wrong + " answers are not as due");
        if (wrong != 0) {
            System.exit(1);
        }
    }

    /** A fixed sequence, so that every run of the test is the same. */
    private static int pick(int bound) {
        seed = seed * 6364136223846793005L + 1442695040888963407L;
        return (int) ((seed >>> 33) % bound);
    }

    private void run() {
        solve();
        askAll();
        while (calls < CALLS - 130) {
            switch (pick(6)) {
                case 0:
                case 1:
                    placeSomewhere();
                    break;
                case 2:
                    removeSomewhere();
                    break;
                default:
                    plantSolution();
                    break;
            }
            solve();
            askAll();
        }
    }

    private void placeSomewhere() {
        int times = 1 + pick(4);
        for (int i = 0; i < times; i++) {
            placeBoth(pick(8) - 1, pick(8) - 1, pick(10));
        }
    }

    private void removeSomewhere() {
        int row = pick(8) - 1;
        int column = pick(8) - 1;
        boolean taken = onBoard(row, column) && model[row][column] != 0;
        if (taken) {
            model[row][column] = 0;
        }
        due("remove(" + row + ", " + column + ")", board.remove(row, column), taken ? held() : -1);
    }

    private void placeBoth(int row, int column, int number) {
        boolean good = onBoard(row, column) && number >= 1 && number <= 8
            && (model[row][column] != 0 || held() < 7);
        if (good) {
            model[row][column] = number;
        }
        due("place(" + row + ", " + column + ", " + number + ")", board.place(row, column, number), good ? held() : -1);
    }

    /** Numbers that fit some choice of bridges, for free numbers seldom have a solution. */
    private void plantSolution() {
        int spread = 2 + pick(5);
        while (held() < 7 && pick(8) != 0) {
            placeBoth(pick(spread), pick(spread), 1 + pick(8));
        }
        solve();
        int[] sums = new int[36];
        for (int[] gap : gaps) {
            int bridges = (1 + pick(5)) / 2;
            sums[gap[0]] += Math.min(bridges, 2);
            sums[gap[1]] += Math.min(bridges, 2);
        }
        for (int cell = 0; cell < 36; cell++) {
            if (model[cell / 6][cell % 6] != 0 && sums[cell] != 0) {
                placeBoth(cell / 6, cell % 6, sums[cell]);
            }
        }
    }

    private void askAll() {
        if (!solutions.isEmpty() && !gaps.isEmpty()) {
            solvable++;
        }
        if (solutions.size() > 1) {
            manySolutions++;
        }
        boolean crowded = gaps.size() > 8;
        due("gaps()", board.gaps(), gaps.size());
        due("solutions()", board.solutions(), crowded ? -2 : solutions.size());
        for (int gap = -1; gap <= gaps.size(); gap++) {
            boolean known = gap >= 0 && gap < gaps.size();
            due("end(" + gap + ", false)", board.end(gap, false), known ? gaps.get(gap)[0] : -1);
            due("end(" + gap + ", true)", board.end(gap, true), known ? gaps.get(gap)[1] : -1);
            due("least(" + gap + ")", board.least(gap), crowded ? -2 : known ? leastOf(gap) : -1);
            due("always(" + gap + ")", board.always(gap), crowded ? -2 : known ? alwaysOf(gap) : -1);
            int bridges = pick(5) - 1;
            boolean fine = known && bridges >= 0 && bridges <= 2;
            due("with(" + gap + ", " + bridges + ")", board.with(gap, bridges),
                crowded ? -2 : fine ? withOf(gap, bridges) : -1);
        }
        for (int i = 0; i < 5; i++) {
            int row = pick(8) - 1;
            int column = pick(8) - 1;
            due("island(" + row + ", " + column + ")", board.island(row, column),
                onBoard(row, column) ? model[row][column] : -1);
        }
    }

    private int leastOf(int gap) {
        int[] least = null;
        for (int[] solution : solutions) {
            if (least == null || java.util.Arrays.compare(solution, least) < 0) {
                least = solution;
            }
        }
        return least == null ? -1 : least[gap];
    }

    private int alwaysOf(int gap) {
        for (int bridges = 0; bridges <= 2; bridges++) {
            if (!solutions.isEmpty() && withOf(gap, bridges) == solutions.size()) {
                return bridges;
            }
        }
        return -1;
    }

    private int withOf(int gap, int bridges) {
        int count = 0;
        for (int[] solution : solutions) {
            if (solution[gap] == bridges) {
                count++;
            }
        }
        return count;
    }

    private void solve() {
        gaps = new ArrayList<>();
        for (int a = 0; a < 36; a++) {
            for (int b = a + 1; b < 36; b++) {
                if (a / 6 == b / 6 && isGap(a, b)) {
                    gaps.add(new int[] {a, b});
                }
            }
            for (int b = a + 1; b < 36; b++) {
                if (a % 6 == b % 6 && isGap(a, b)) {
                    gaps.add(new int[] {a, b});
                }
            }
        }
        solutions = new ArrayList<>();
        extend(new int[gaps.size()], 0);
    }

    private boolean isGap(int a, int b) {
        if (model[a / 6][a % 6] == 0 || model[b / 6][b % 6] == 0) {
            return false;
        }
        for (int cell : between(a, b)) {
            if (model[cell / 6][cell % 6] != 0) {
                return false;
            }
        }
        return true;
    }

    private static List<Integer> between(int a, int b) {
        List<Integer> cells = new ArrayList<>();
        for (int row = a / 6; row <= b / 6; row++) {
            for (int column = a % 6; column <= b % 6; column++) {
                int cell = 6 * row + column;
                if (cell != a && cell != b) {
                    cells.add(cell);
                }
            }
        }
        return cells;
    }

    /** Goes from 2 bridges down to 0, so that the order in which solutions are found is not the one asked for. */
    private void extend(int[] bridges, int next) {
        if (next == bridges.length) {
            if (sumsAreRight(bridges) && joined(bridges)) {
                solutions.add(bridges.clone());
            }
            return;
        }
        for (int count = 2; count >= 0; count--) {
            bridges[next] = count;
            if (count == 0 || !crossesEarlier(bridges, next)) {
                extend(bridges, next + 1);
            }
        }
    }

    private boolean crossesEarlier(int[] bridges, int gap) {
        List<Integer> cells = between(gaps.get(gap)[0], gaps.get(gap)[1]);
        for (int other = 0; other < gap; other++) {
            List<Integer> common = between(gaps.get(other)[0], gaps.get(other)[1]);
            common.retainAll(cells);
            if (bridges[other] > 0 && !common.isEmpty()) {
                return true;
            }
        }
        return false;
    }

    private boolean sumsAreRight(int[] bridges) {
        for (int cell = 0; cell < 36; cell++) {
            int sum = 0;
            for (int gap = 0; gap < bridges.length; gap++) {
                if (gaps.get(gap)[0] == cell || gaps.get(gap)[1] == cell) {
                    sum += bridges[gap];
                }
            }
            if (sum != model[cell / 6][cell % 6]) {
                return false;
            }
        }
        return true;
    }

    private boolean joined(int[] bridges) {
        int[] group = new int[36];
        for (int cell = 0; cell < 36; cell++) {
            group[cell] = cell;
        }
        for (int gap = 0; gap < bridges.length; gap++) {
            int from = group[gaps.get(gap)[0]];
            int to = group[gaps.get(gap)[1]];
            for (int cell = 0; cell < 36 && bridges[gap] > 0; cell++) {
                group[cell] = group[cell] == from ? to : group[cell];
            }
        }
        int first = -1;
        for (int cell = 0; cell < 36; cell++) {
            if (model[cell / 6][cell % 6] != 0) {
                first = first < 0 ? group[cell] : first;
                if (group[cell] != first) {
                    return false;
                }
            }
        }
        return true;
    }

    private int held() {
        int count = 0;
        for (int cell = 0; cell < 36; cell++) {
            count += model[cell / 6][cell % 6] != 0 ? 1 : 0;
        }
        return count;
    }

    private static boolean onBoard(int row, int column) {
        return row >= 0 && row <= 5 && column >= 0 && column <= 5;
    }

    private void due(String call, int got, int want) {
        calls++;
        if (calls > 512) {
            throw new IllegalStateException("the test itself makes more than 512 calls");
        }
        if (got != want) {
            wrong++;
            StringBuilder text = new StringBuilder();
            for (int cell = 0; cell < 36; cell++) {
                text.append(cell % 6 == 0 ? " " : "").append(model[cell / 6][cell % 6]);
            }
            System.out.println(call + " answered " + got + ", due is " + want + " on" + text);
        }
    }
}
