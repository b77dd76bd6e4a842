import java.util.NoSuchElementException;

/**
 * Levels and best ways, found by trying every way in small grids; the program and the second program of OracleTests
 * search without trying every way.
 */
public final class WayTests {

    private static final int GRIDS = 400;

    private final WatershedMapper mapper = new WatershedMapper();
    private final int width;
    private final int rows;
    private final int[] heights;
    private final boolean[] isOutlet;
    private final boolean[] isOnWay;
    /** The costs that are answered for the bottoms of lakes; -1 for all other cells. */
    private final int[] answeredCosts;
    private int level;
    /** The best way that was found so far: its cells, the directions of its steps, and its cost. */
    private String best;
    private String directions;
    private int cost;

    private WayTests(int grid) {
        width = 2 + grid % 3;
        rows = 2 + grid / 3 % 3;
        heights = new int[width * rows];
        isOutlet = new boolean[width * rows];
        isOnWay = new boolean[width * rows];
        answeredCosts = new int[width * rows];
        mapper.resize(width, rows);
        mapper.scatter(grid * 7919, 2 + grid % 9 * (grid % 9));
        mapper.setOutlet(grid / 2 % (width * rows), true);
        mapper.setOutlet(grid % (width * rows), true);
        if (mapper.count(2) > 1) {
            mapper.setOutlet(0, grid % 4 == 0);
        }
        for (int c = 0; c < width * rows; c++) {
            heights[c] = mapper.cell(c, 0);
            isOutlet[c] = mapper.cell(c, 3) == 1;
            answeredCosts[c] = -1;
        }
        int lakes = mapper.count(4);
        for (int lake = 0; lake < lakes; lake++) {
            answeredCosts[mapper.lake(lake, 4)] = mapper.lake(lake, 5);
        }
    }

    public static void main(String[] args) {
        int looked = 0;
        int wrong = 0;
        for (int grid = 0; grid < GRIDS; grid++) {
            WayTests test = new WayTests(grid);
            for (int cell = 0; cell < test.width * test.rows; cell++) {
                looked++;
                if (!test.isRight(cell)) {
                    wrong++;
                    System.out.println("grid " + grid + ", cell " + cell + ": the way" + test.answeredWay(cell)
                            + "; due is" + test.best + ", cost " + test.cost + ", level " + test.level);
                }
            }
        }
        System.out.println(looked + " cells with their levels and best ways, " + wrong + " not as due");
        if (wrong != 0) {
            System.exit(1);
        }
    }

    private boolean isRight(int cell) {
        level = 100;
        best = null;
        tryWays(cell, "", "", 0, 0, 99);
        return mapper.level(cell) == level && mapper.levelByPools(cell) == level && answeredWay(cell).equals(best)
                && (answeredCosts[cell] == -1 || answeredCosts[cell] == cost);
    }

    /** Goes on with a way by a cell; a way behind an outlet is one for the level alone, for its got is -1. */
    private void tryWays(int cell, String before, String steps, int costBefore, int most, int gotBefore) {
        int got = Math.min(heights[cell], gotBefore);
        int costs = costBefore + heights[cell] - got;
        int greatest = Math.max(heights[cell], most);
        String cells = before + " " + cell;
        if (isOutlet[cell]) {
            level = Math.min(level, greatest);
            if (got >= 0 && isBetter(costs, steps)) {
                best = cells;
                directions = steps;
                cost = costs;
            }
            got = -1;
        }
        isOnWay[cell] = true;
        for (int d = 0; d < 4; d++) {
            int x = cell % width + (d == 1 ? 1 : d == 3 ? -1 : 0);
            int y = cell / width + (d == 2 ? 1 : d == 0 ? -1 : 0);
            if (x >= 0 && x < width && y >= 0 && y < rows && !isOnWay[y * width + x]) {
                tryWays(y * width + x, cells, steps + d, costs, greatest, got);
            }
        }
        isOnWay[cell] = false;
    }

    private boolean isBetter(int costs, String steps) {
        if (best == null || costs != cost) {
            return best == null || costs < cost;
        }
        int more = steps.length() - directions.length();
        return more < 0 || more == 0 && steps.compareTo(directions) < 0;
    }

    private String answeredWay(int cell) {
        String way = "";
        try {
            for (int k = 0; k < 64; k++) {
                way += " " + mapper.carveWay(cell, k);
            }
        } catch (NoSuchElementException end) {
            return way;
        }
        return " without an end";
    }
}
