import java.util.NoSuchElementException;
import java.util.concurrent.Callable;

/** For each promise of the document ordinary inputs, the edges that it names, and wrong inputs. */
public final class PromiseTests {

    private static final Class<?> INDEX = IndexOutOfBoundsException.class;
    private static final Class<?> ARGUMENT = IllegalArgumentException.class;
    private static final Class<?> STATE = IllegalStateException.class;
    private static final Class<?> ELEMENT = NoSuchElementException.class;
    private static final int LOW = Integer.MIN_VALUE;
    private static final int HIGH = Integer.MAX_VALUE;

    private static int passed = 0;
    private static int failed = 0;
    private static int promise = 0;
    private static WatershedMapper m;

    /** An answer, or the very class of an exception. */
    private static void due(Object want, Callable<?> call) {
        Object got;
        try {
            got = call.call();
        } catch (Exception e) {
            got = e.getClass();
        }
        if (want.equals(got)) {
            passed++;
        } else {
            failed++;
            StackTraceElement place = new Throwable().getStackTrace()[1];
            System.out.println("promise " + promise + ", line " + place.getLineNumber() + ": answered " + got
                    + ", due is " + want);
        }
    }

    private static void fresh(int number) {
        promise = number;
        m = new WatershedMapper();
    }

    /** A new grid with rows of heights, cell 0 being its only outlet. */
    private static void grid(int number, int width, int... heights) {
        fresh(number);
        m.resize(width, heights.length / width);
        for (int c = 0; c < heights.length; c++) {
            m.setHeight(c, heights[c]);
        }
    }

    private static void type(String text) {
        for (int k = 0; k < text.length(); k++) {
            m.append(text.charAt(k));
        }
    }

    private static void error(int place, String text) {
        type(text);
        due(ARGUMENT, () -> m.execute());
        due(place, () -> m.errorPosition());
        due(0, () -> m.count(9));
    }

    private static void well(int commands, String text) {
        type(text);
        due(commands, () -> m.execute());
        due(0, () -> m.count(9));
    }

    private static long cells(int... cells) {
        long set = 0;
        for (int c : cells) {
            set |= 1L << c;
        }
        return set;
    }

    public static void main(String[] args) {
        newObject();
        grids();
        settings();
        reading();
        lakes();
        carving();
        flows();
        waters();
        streams();
        basins();
        pools();
        contours();
        sections();
        sights();
        whatWouldBe();
        texts();
        textErrors();
        maps();
        undoing();
        undoingInTurn();
        saving();
        firstCell();
        System.out.println(passed + " answers as due, " + failed + " not");
        if (failed != 0) {
            System.exit(1);
        }
    }

    private static void newObject() {
        fresh(1);
        int[] counts = {5, 5, 1, 5, 0, 5, 1, 0, 24, 0, 0};
        for (int what = 0; what < counts.length; what++) {
            int asked = what;
            due(counts[what], () -> m.count(asked));
        }
        for (int c = 0; c < 25; c++) {
            int asked = c;
            due(50, () -> m.cell(asked, 0));
            due(1, () -> m.cell(asked, 1));
            due(0, () -> m.cell(asked, 2));
            due(c == 0 ? 1 : 0, () -> m.cell(asked, 3));
        }
        due(STATE, () -> m.undo());
        due(STATE, () -> m.restore());
        due(ELEMENT, () -> m.errorPosition());
    }

    private static void grids() {
        fresh(2);
        m.setThreshold(7);
        m.setHeight(3, 9);
        m.setRain(3, 9);
        m.setSoak(3, 9);
        m.setOutlet(3, true);
        m.save();
        error(0, "x");
        type("h");
        due(6, () -> m.resize(3, 2));
        due(3, () -> m.count(0));
        due(2, () -> m.count(1));
        due(1, () -> m.count(2));
        due(7, () -> m.count(3));
        due(1, () -> m.count(9));
        due(0, () -> m.errorPosition());
        due(50, () -> m.cell(3, 0));
        due(1, () -> m.cell(3, 1));
        due(0, () -> m.cell(3, 2));
        due(0, () -> m.cell(3, 3));
        due(1, () -> m.cell(0, 3));
        due(INDEX, () -> m.cell(6, 0));
        due(4, () -> m.resize(2, 2));
        due(64, () -> m.resize(8, 8));
        for (int wrong : new int[] {LOW, -1, 0, 1, 9, HIGH}) {
            due(ARGUMENT, () -> m.resize(wrong, 5));
            due(ARGUMENT, () -> m.resize(5, wrong));
        }
        due(8, () -> m.count(0));
        due(25, () -> m.restore());

        fresh(3);
        int z = -12345;
        int different = m.scatter(z, 100);
        int[] seen = new int[100];
        int number = 0;
        for (int c = 0; c < 25; c++) {
            z = z * 1103515245 + 12345;
            int want = (z >>> 16) % 100;
            int asked = c;
            due(want, () -> m.cell(asked, 0));
            number += seen[want]++ == 0 ? 1 : 0;
        }
        int wanted = number;
        due(wanted, () -> different);
        due(1, () -> m.scatter(HIGH, 1));
        due(0, () -> m.account(4));
        due(ARGUMENT, () -> m.scatter(0, 0));
        due(ARGUMENT, () -> m.scatter(0, -1));
        due(ARGUMENT, () -> m.scatter(0, 101));
        due(ARGUMENT, () -> m.scatter(0, LOW));
        due(2, () -> m.count(10));
    }

    private static void settings() {
        fresh(4);
        due(50, () -> m.setHeight(24, 99));
        due(99, () -> m.setHeight(24, 0));
        due(0, () -> m.cell(24, 0));
        wrongCells(c -> m.setHeight(c, 100));
        due(ARGUMENT, () -> m.setHeight(0, -1));
        due(ARGUMENT, () -> m.setHeight(0, 100));

        grid(5, 3, 1, 50, 98, 2, 60, 3, 4, 5, 6);
        due(4, () -> m.raise(4, 2, 3));
        due(53, () -> m.cell(1, 0));
        due(99, () -> m.cell(2, 0));
        due(63, () -> m.cell(4, 0));
        due(6, () -> m.cell(5, 0));
        due(2, () -> m.cell(3, 0));
        due(3, () -> m.raise(2, 4, 1));
        due(9, () -> m.raise(6, 2, -99));
        due(0, () -> m.account(4));
        due(0, () -> m.raise(0, 8, -1));
        due(1, () -> m.raise(7, 7, 99));
        due(99, () -> m.account(4));
        wrongCells(c -> m.raise(c, 0, 100));
        wrongCells(c -> m.raise(0, c, 100));
        due(ARGUMENT, () -> m.raise(0, 0, 100));
        due(ARGUMENT, () -> m.raise(0, 0, -100));

        fresh(6);
        due(1, () -> m.setRain(7, 9));
        due(9, () -> m.setRain(7, 0));
        due(0, () -> m.cell(7, 1));
        wrongCells(c -> m.setRain(c, 10));
        due(ARGUMENT, () -> m.setRain(7, -1));
        due(ARGUMENT, () -> m.setRain(7, 10));

        fresh(7);
        due(0, () -> m.setSoak(7, 9));
        due(9, () -> m.setSoak(7, 3));
        due(3, () -> m.cell(7, 2));
        wrongCells(c -> m.setSoak(c, 10));
        due(ARGUMENT, () -> m.setSoak(7, -1));
        due(ARGUMENT, () -> m.setSoak(7, 10));

        fresh(8);
        due(STATE, () -> m.setOutlet(0, false));
        due(false, () -> m.setOutlet(5, false));
        due(false, () -> m.setOutlet(24, true));
        due(true, () -> m.setOutlet(24, true));
        due(true, () -> m.setOutlet(0, false));
        due(STATE, () -> m.setOutlet(24, false));
        due(0, () -> m.cell(0, 3));
        due(1, () -> m.cell(24, 3));
        due(4, () -> m.count(10));
        wrongCells(c -> m.setOutlet(c, false));

        fresh(9);
        due(5, () -> m.setThreshold(99));
        due(99, () -> m.setThreshold(1));
        due(1, () -> m.count(3));
        due(ARGUMENT, () -> m.setThreshold(0));
        due(ARGUMENT, () -> m.setThreshold(100));
        due(1, () -> m.count(3));
    }

    private interface OfCell {
        Object answer(int cell) throws Exception;
    }

    /** The grid is asked for cells that it does not have. */
    private static void wrongCells(OfCell call) {
        for (int cell : new int[] {-1, m.count(0) * m.count(1), 64, LOW, HIGH}) {
            due(INDEX, () -> call.answer(cell));
        }
    }

    private static void reading() {
        grid(10, 2, 7, 8, 9, 10);
        m.setRain(2, 3);
        m.setSoak(2, 4);
        due(9, () -> m.cell(2, 0));
        due(3, () -> m.cell(2, 1));
        due(4, () -> m.cell(2, 2));
        due(0, () -> m.cell(2, 3));
        due(1, () -> m.cell(0, 3));
        wrongCells(c -> m.cell(c, 4));
        due(ARGUMENT, () -> m.cell(0, -1));
        due(ARGUMENT, () -> m.cell(0, 4));

        grid(11, 3, 50, 50, 50, 50, 10, 50, 50, 50, 20);
        m.setOutlet(2, true);
        m.setThreshold(2);
        type("ab");
        int[] counts = {3, 3, 2, 2, 2, 6, 4, 2, 7, 2, 8};
        for (int what = 0; what < counts.length; what++) {
            int asked = what;
            due(counts[what], () -> m.count(asked));
        }
        due(ARGUMENT, () -> m.count(-1));
        due(ARGUMENT, () -> m.count(11));
    }

    private static void lakes() {
        // One lake of the level 6 behind the rim of cell 1, and one of the level 9 in the corner.
        grid(12, 4, 2, 6, 3, 9, 9, 9, 5, 9, 9, 9, 9, 1);
        int[] levels = {2, 6, 6, 9, 9, 9, 6, 9, 9, 9, 9, 9};
        for (int number = 12; number <= 13; number++) {
            promise = number;
            for (int c = 0; c < levels.length; c++) {
                int asked = c;
                boolean isByPools = number == 13;
                due(levels[c], () -> isByPools ? m.levelByPools(asked) : m.level(asked));
            }
        }
        wrongCells(c -> m.level(c));
        wrongCells(c -> m.levelByPools(c));

        promise = 14;
        int[] first = {2, 2, 6, 4, 2, 3, 1};
        int[] second = {11, 1, 9, 8, 11, 20, 7};
        for (int what = 0; what < first.length; what++) {
            int asked = what;
            due(first[what], () -> m.lake(0, asked));
            due(second[what], () -> m.lake(1, asked));
        }
        for (int wrong : new int[] {-1, 2, LOW, HIGH}) {
            due(INDEX, () -> m.lake(wrong, 7));
            due(INDEX, () -> m.remedy(wrong));
            due(INDEX, () -> m.fillLake(wrong));
            due(INDEX, () -> m.carveLake(wrong));
        }
        due(ARGUMENT, () -> m.lake(0, -1));
        due(ARGUMENT, () -> m.lake(0, 7));

        promise = 15;
        due(0, () -> m.lakeOf(2));
        due(0, () -> m.lakeOf(6));
        due(1, () -> m.lakeOf(11));
        due(ELEMENT, () -> m.lakeOf(0));
        due(ELEMENT, () -> m.lakeOf(1));
        wrongCells(c -> m.lakeOf(c));

        promise = 16;
        due(2, () -> m.remedy(0));
        due(1, () -> m.remedy(1));
        m.setHeight(6, 6);
        // Now the volume is the cost of the way, and filling is the remedy still.
        due(3, () -> m.lake(0, 3));
        due(1, () -> m.remedy(0));
        m.undo();

        promise = 17;
        due(4, () -> m.fillLake(0));
        due(6, () -> m.cell(2, 0));
        due(6, () -> m.cell(6, 0));
        due(1, () -> m.count(4));
        due(8, () -> m.fillLake(0));
        due(9, () -> m.cell(11, 0));
        due(0, () -> m.count(4));
        due(INDEX, () -> m.fillLake(0));

        grid(14, 3, 9, 9, 9, 9, 5, 5, 9, 7, 9);
        due(4, () -> m.lake(0, 4));
        due(1, () -> m.count(4));
        m.setHeight(5, 4);
        due(5, () -> m.lake(0, 4));

        // The two sides of a ridge are lakes of their own, though their levels are the same.
        grid(14, 3, 5, 9, 1, 9, 9, 9, 1, 9, 9);
        due(2, () -> m.count(4));
        due(2, () -> m.lake(0, 0));
        due(6, () -> m.lake(1, 0));
        // Neighbors with different levels are different lakes.
        grid(14, 3, 0, 5, 2, 9, 9, 7, 9, 9, 3);
        due(2, () -> m.count(4));

        grid(20, 2, 5, 9, 9, 2);
        due(7.0, () -> m.meanDepth());
        m.resize(3, 3);
        due(ArithmeticException.class, () -> m.meanDepth());
        m.setHeight(8, 49);
        m.setHeight(5, 49);
        m.setHeight(6, 50 - 3);
        due(5.0 / 3.0, () -> m.meanDepth());
    }

    private static void carving() {
        grid(18, 4, 2, 6, 3, 9, 9, 9, 5, 9, 9, 9, 9, 1);
        due(1, () -> m.carveLake(0));
        due(3, () -> m.cell(1, 0));
        due(2, () -> m.cell(0, 0));
        due(3, () -> m.cell(2, 0));
        due(1, () -> m.count(4));
        m.undo();
        due(6, () -> m.cell(1, 0));
        due(5, () -> m.carveLake(1));
        due(1, () -> m.cell(0, 0));
        due(1, () -> m.cell(2, 0));
        due(1, () -> m.cell(6, 0));
        due(1, () -> m.cell(7, 0));
        due(0, () -> m.count(4));

        promise = 19;
        m.undo();
        way(11, 11, 7, 6, 2, 1, 0);
        due(ELEMENT, () -> m.carveWay(11, -1));
        due(ELEMENT, () -> m.carveWay(11, HIGH));
        // An outlet's best way is the outlet alone, also next to a lower one.
        m.setOutlet(1, true);
        way(1, 1);
        wrongCells(c -> m.carveWay(c, -1));

        // To go down into a pit makes the rest of the way deeper: it costs more than the straight rise.
        grid(19, 3, 50, 60, 60, 61, 50, 0, 50, 50, 50);
        way(4, 4, 1, 0);
        // Of equal costs the fewest cells, and of equal numbers the first directions: up before left.
        grid(19, 3, 5, 5, 5, 5, 5, 5, 5, 5, 5);
        way(1, 1, 0);
        way(8, 8, 5, 2, 1, 0);
        // A lesser cost takes a longer way.
        grid(19, 3, 5, 9, 5, 5, 9, 5, 5, 5, 5);
        way(2, 2, 5, 8, 7, 6, 3, 0);
        // Right before left when both ways have the same cost and length.
        grid(19, 3, 5, 5, 5, 9, 9, 9, 9, 9, 9);
        m.setOutlet(2, true);
        way(1, 1, 2);
    }

    private static void way(int cell, int... cells) {
        for (int k = 0; k < cells.length; k++) {
            int index = k;
            due(cells[k], () -> m.carveWay(cell, index));
        }
        due(ELEMENT, () -> m.carveWay(cell, cells.length));
    }

    private static void flows() {
        // 9 5 2 / 7 3 1 / 4 8 0, the outlet is the corner below on the right.
        grid(21, 3, 9, 5, 2, 7, 3, 1, 4, 8, 0);
        m.setOutlet(8, true);
        m.setOutlet(0, false);
        int[] directions = {1, 1, 2, 1, 1, 2, 0, 1};
        for (int c = 0; c < directions.length; c++) {
            int asked = c;
            due(directions[c], () -> m.flow(asked));
        }
        due(ELEMENT, () -> m.flow(8));
        wrongCells(c -> m.flow(c));

        promise = 22;
        due(0, () -> m.why(8, 0));
        due(0, () -> m.why(8, 1));
        due(0, () -> m.why(8, 2));
        due(1, () -> m.why(4, 0));
        due(1, () -> m.why(4, 1));
        due(0, () -> m.why(4, 2));
        // Cell 6 with the level 7 lies in a lake and is flat.
        due(7, () -> m.level(6));
        due(2, () -> m.why(6, 0));
        due(1, () -> m.why(6, 1));
        due(1, () -> m.why(6, 2));
        wrongCells(c -> m.why(c, 3));
        due(ARGUMENT, () -> m.why(0, -1));
        due(ARGUMENT, () -> m.why(0, 3));
        fresh(22);
        due(2, () -> m.why(24, 1));
        due(8, () -> m.why(24, 2));
        due(1, () -> m.why(4, 1));
        m.setHeight(0, 1);
        m.setHeight(2, 50);
        m.setOutlet(2, true);
        m.setHeight(2, 1);
        // Two neighbors with the least level: the lowest direction of them.
        due(2, () -> m.why(1, 1));
        due(1, () -> m.flow(1));
        due(1, () -> m.why(1, 0));

        grid(23, 3, 9, 5, 2, 7, 3, 1, 4, 8, 0);
        m.setOutlet(8, true);
        m.setOutlet(0, false);
        int[] route = {6, 3, 4, 5, 8};
        for (int k = 0; k < route.length; k++) {
            int index = k;
            due(route[k], () -> m.route(6, index));
        }
        due(8, () -> m.route(6, -1));
        due(8, () -> m.route(8, -1));
        due(8, () -> m.route(8, 0));
        due(ELEMENT, () -> m.route(8, 1));
        due(ELEMENT, () -> m.route(6, 5));
        due(ELEMENT, () -> m.route(6, -2));
        due(ELEMENT, () -> m.route(6, HIGH));
        due(ELEMENT, () -> m.route(6, LOW));
        wrongCells(c -> m.route(c, -2));

        promise = 24;
        due(511L, () -> m.upstream(8));
        due(cells(6), () -> m.upstream(6));
        due(cells(3, 4, 6), () -> m.upstream(4));
        due(cells(0, 1, 2, 3, 4, 5, 6), () -> m.upstream(5));
        wrongCells(c -> m.upstream(c));
        m.resize(8, 8);
        due(-1L, () -> m.upstream(0));
    }

    private static void waters() {
        grid(25, 3, 9, 5, 2, 7, 3, 1, 4, 8, 0);
        m.setOutlet(8, true);
        m.setOutlet(0, false);
        m.setRain(6, 3);
        m.setSoak(3, 2);
        m.setSoak(4, 9);
        int[] three = {3, 4, 2, 2};
        int[] four = {2, 3, 3, 0};
        int[] mouth = {5, 6, 0, 6};
        for (int what = 0; what < 4; what++) {
            int asked = what;
            due(three[what], () -> m.water(3, asked));
            due(four[what], () -> m.water(4, asked));
            due(mouth[what], () -> m.water(8, asked));
        }
        wrongCells(c -> m.water(c, 4));
        due(ARGUMENT, () -> m.water(0, -1));
        due(ARGUMENT, () -> m.water(0, 4));

        promise = 26;
        int[] accounts = {11, 6, 5, 3, 39, 6};
        for (int what = 0; what < accounts.length; what++) {
            int asked = what;
            due(accounts[what], () -> m.account(asked));
        }
        due(ARGUMENT, () -> m.account(-1));
        due(ARGUMENT, () -> m.account(6));
        // What an outlet soaks does not leave the grid.
        m.setSoak(8, 5);
        due(1, () -> m.account(1));
        due(10, () -> m.account(2));
        // The greatest water need not be that of an outlet.
        m.setSoak(5, 9);
        due(1, () -> m.water(8, 0));
        due(4, () -> m.account(5));
    }

    private static void streams() {
        grid(27, 3, 0, 1, 2, 9, 9, 9, 5, 4, 3);
        m.setThreshold(1);
        // With the least threshold all cells with rain are stream cells.
        due(9, () -> m.count(5));
        for (int c = 0; c < 9; c++) {
            int asked = c;
            boolean isStream = m.water(c, 1) >= 1;
            due(isStream, () -> m.order(asked) >= 1);
        }
        m.setThreshold(99);
        due(0, () -> m.order(0));
        due(0, () -> m.count(6));
        wrongCells(c -> m.order(c));

        // Two arms of order 1 make order 2; a third arm of order 1 adds nothing.
        grid(27, 3, 9, 5, 9, 5, 3, 5, 9, 1, 9);
        m.setOutlet(7, true);
        m.setOutlet(0, false);
        m.setThreshold(1);
        due(1, () -> m.order(0));
        due(1, () -> m.order(3));
        due(1, () -> m.order(2));
        due(2, () -> m.order(4));
        due(2, () -> m.order(7));

        promise = 28;
        int reaches = m.count(6);
        int junction = m.reachOf(4);
        due(4, () -> m.reach(junction, 0));
        due(2, () -> m.reach(junction, 3));
        due(reaches, () -> m.count(6));
        due(m.reachOf(7), () -> m.reach(m.reachOf(4), 4));
        due(INDEX, () -> m.reach(-1, 5));
        due(INDEX, () -> m.reach(reaches, 5));
        due(INDEX, () -> m.reach(HIGH, 0));
        due(ARGUMENT, () -> m.reach(0, -1));
        due(ARGUMENT, () -> m.reach(0, 5));
        // Ascending order of the first cells.
        for (int r = 1; r < reaches; r++) {
            int asked = r;
            due(true, () -> m.reach(asked - 1, 0) < m.reach(asked, 0));
        }

        // A straight stream that soaks away in cell 6 and begins again in cell 2, whose feeder is no stream cell.
        grid(28, 2, 0, 9, 1, 9, 2, 9, 3, 9, 4, 9, 5, 9);
        m.setThreshold(3);
        m.setSoak(6, 9);
        due(2, () -> m.count(6));
        int[][] numbers = {{2, 0, 2, 1, -1}, {8, 6, 2, 1, -1}};
        for (int what = 0; what < 5; what++) {
            int asked = what;
            due(numbers[0][what], () -> m.reach(0, asked));
            due(numbers[1][what], () -> m.reach(1, asked));
        }
        // With a lower threshold cell 4 goes on with the reach, though nothing flows out of cell 6.
        m.setThreshold(2);
        due(0, () -> m.water(6, 3));
        due(1, () -> m.count(6));
        due(6, () -> m.reach(0, 2));
        m.undo();

        promise = 29;
        due(0, () -> m.reachOf(0));
        due(0, () -> m.reachOf(2));
        due(1, () -> m.reachOf(6));
        due(1, () -> m.reachOf(8));
        due(ELEMENT, () -> m.reachOf(4));
        due(ELEMENT, () -> m.reachOf(1));
        wrongCells(c -> m.reachOf(c));
        // An outlet can be the only cell of a reach.
        m.resize(2, 2);
        m.setThreshold(4);
        due(0, () -> m.reachOf(0));
        due(1, () -> m.reach(0, 2));
        due(-1, () -> m.reach(0, 4));
    }

    private static void basins() {
        grid(30, 4, 5, 6, 6, 5, 5, 6, 6, 4);
        m.setOutlet(7, true);
        m.setRain(1, 4);
        m.setSoak(7, 2);
        due(4, () -> m.basin(0, 0));
        due(7, () -> m.basin(0, 1));
        due(7, () -> m.basin(0, 2));
        due(2, () -> m.basin(0, 3));
        due(4, () -> m.basin(7, 0));
        due(4, () -> m.basin(7, 1));
        due(2, () -> m.basin(7, 2));
        due(2, () -> m.basin(7, 3));
        wrongCells(c -> m.basin(c, 4));
        due(STATE, () -> m.basin(1, 4));
        due(ARGUMENT, () -> m.basin(0, -1));
        due(ARGUMENT, () -> m.basin(0, 4));

        promise = 31;
        due(2, () -> m.divides());
        m.setOutlet(0, false);
        due(0, () -> m.divides());
        m.resize(2, 2);
        m.setOutlet(3, true);
        due(2, () -> m.divides());
    }

    private static void pools() {
        // Two pits at 2 and 4 of a row join at 6; the outlet is beyond the rim of 8.
        grid(32, 6, 1, 8, 3, 6, 4, 9, 9, 9, 9, 9, 9, 7);
        due(4, () -> m.count(7));
        int[][] all = {
            {3, 5, 1, 3, 2, 2, 0, 1},
            {4, 5, 1, 2, 4, 2, 0, 1},
            {6, 7, 3, 11, 2, -1, 2, 0},
            {7, 8, 1, 2, 11, -1, 0, 0}};
        for (int d = 0; d < all.length; d++) {
            for (int what = 0; what < 8; what++) {
                int depression = d;
                int asked = what;
                due(all[d][what], () -> m.depression(depression, asked));
            }
        }
        due(INDEX, () -> m.depression(-1, 8));
        due(INDEX, () -> m.depression(4, 8));
        due(INDEX, () -> m.depression(HIGH, 0));
        due(ARGUMENT, () -> m.depression(0, -1));
        due(ARGUMENT, () -> m.depression(0, 8));

        promise = 13;
        due(8, () -> m.levelByPools(2));
        due(8, () -> m.levelByPools(3));
        due(9, () -> m.levelByPools(11));
        due(8, () -> m.levelByPools(1));

        promise = 33;
        due(0, () -> m.depressionAt(2, 3));
        due(0, () -> m.depressionAt(2, 5));
        due(1, () -> m.depressionAt(4, 5));
        due(2, () -> m.depressionAt(2, 6));
        due(2, () -> m.depressionAt(3, 7));
        due(3, () -> m.depressionAt(11, 8));
        due(ELEMENT, () -> m.depressionAt(2, 2));
        due(ELEMENT, () -> m.depressionAt(2, 8));
        due(ELEMENT, () -> m.depressionAt(3, 5));
        due(ELEMENT, () -> m.depressionAt(0, 50));
        due(ELEMENT, () -> m.depressionAt(0, 99));
        wrongCells(c -> m.depressionAt(c, 100));
        due(ARGUMENT, () -> m.depressionAt(0, -1));
        due(ARGUMENT, () -> m.depressionAt(0, 100));

        promise = 34;
        due(0L, () -> m.pools(0));
        due(cells(2), () -> m.pools(3));
        due(cells(2, 4), () -> m.pools(5));
        due(cells(2, 3, 4), () -> m.pools(6));
        due(cells(2, 3, 4, 11), () -> m.pools(7));
        due(cells(11), () -> m.pools(8));
        due(0L, () -> m.pools(9));
        due(0L, () -> m.pools(99));
        due(ARGUMENT, () -> m.pools(-1));
        due(ARGUMENT, () -> m.pools(100));

        // A pool of 0, and a depression that reaches up to 98.
        grid(32, 2, 99, 99, 99, 0);
        due(0, () -> m.depression(0, 0));
        due(98, () -> m.depression(0, 1));
        due(99, () -> m.depression(0, 3));
        due(99, () -> m.levelByPools(3));
    }

    private static void contours() {
        grid(35, 4,
            9, 9, 9, 9,
            9, 1, 2, 9,
            9, 9, 9, 9,
            3, 9, 9, 9);
        due(13, () -> m.contour(9, 0));
        due(1, () -> m.contour(9, 1));
        due(8, () -> m.contour(9, 2));
        due(1, () -> m.contour(9, 3));
        due(15, () -> m.contour(2, 0));
        due(4, () -> m.contour(2, 2));
        due(16, () -> m.contour(1, 0));
        due(0, () -> m.contour(1, 3));
        due(0, () -> m.contour(10, 0));
        due(0, () -> m.contour(10, 1));
        due(0, () -> m.contour(10, 2));
        due(0, () -> m.contour(99, 3));
        // A hollow can contain outlets.
        m.setOutlet(5, true);
        due(1, () -> m.contour(9, 3));
        // Corners do not join groups.
        m.setHeight(6, 9);
        m.setHeight(10, 2);
        due(2, () -> m.contour(9, 3));
        m.setHeight(4, 1);
        due(1, () -> m.contour(9, 3));
        due(ARGUMENT, () -> m.contour(0, 0));
        due(ARGUMENT, () -> m.contour(100, 0));
        due(ARGUMENT, () -> m.contour(1, -1));
        due(ARGUMENT, () -> m.contour(1, 4));
        grid(35, 2, 9, 1, 1, 9);
        due(2, () -> m.contour(5, 1));
    }

    private static void sections() {
        grid(36, 4,
            5, 1, 2, 3,
            4, 9, 6, 7,
            8, 2, 3, 1);
        // Cells 0, 1, 6, 7: the y of cell k is the quotient of 2 * k + 3 and 6.
        due(4, () -> m.section(0, 7, 0));
        due(6, () -> m.section(0, 7, 1));
        due(4, () -> m.section(0, 7, 2));
        due(7, () -> m.section(0, 7, 3));
        due(1, () -> m.section(0, 7, 4));
        m.setThreshold(99);
        due(0, () -> m.section(0, 7, 5));
        m.setThreshold(1);
        due(4, () -> m.section(0, 7, 5));
        due(1, () -> m.section(5, 5, 0));
        due(0, () -> m.section(5, 5, 1));
        due(9, () -> m.section(5, 5, 3));
        due(9, () -> m.section(5, 5, 4));
        wrongCells(c -> m.section(c, 0, 6));
        wrongCells(c -> m.section(0, c, 6));
        due(ARGUMENT, () -> m.section(0, 1, -1));
        due(ARGUMENT, () -> m.section(0, 1, 6));

        promise = 37;
        line(0, 7, 0, 1, 6, 7);
        line(7, 0, 7, 6, 1, 0);
        line(0, 11, 0, 5, 6, 11);
        line(11, 0, 11, 6, 5, 0);
        line(5, 5, 5);
        line(3, 0, 3, 2, 1, 0);
        line(8, 0, 8, 4, 0);
        // A half goes to the greater number, whatever the direction: 1 / 2 to 1, -1 / 2 to 0.
        line(0, 6, 0, 5, 6);
        line(6, 0, 6, 5, 0);
        line(2, 4, 2, 5, 4);
        line(4, 2, 4, 5, 2);
        due(ELEMENT, () -> m.sectionCell(0, 7, -1));
        due(ELEMENT, () -> m.sectionCell(0, 7, HIGH));
        wrongCells(c -> m.sectionCell(c, 0, -1));
        wrongCells(c -> m.sectionCell(0, c, -1));
    }

    private static void line(int from, int to, int... cells) {
        for (int k = 0; k < cells.length; k++) {
            int index = k;
            due(cells[k], () -> m.sectionCell(from, to, index));
        }
        due(ELEMENT, () -> m.sectionCell(from, to, cells.length));
        due(cells.length, () -> m.section(from, to, 0));
    }

    private static void sights() {
        grid(38, 5, 10, 10, 10, 10, 10, 0, 0, 0, 0, 0);
        due(true, () -> m.sees(0, 4, 0));
        m.setHeight(2, 11);
        due(false, () -> m.sees(0, 4, 0));
        due(false, () -> m.sees(4, 0, 0));
        // With the eye 2 higher the line is just over the height of the middle.
        due(true, () -> m.sees(0, 4, 2));
        due(false, () -> m.sees(0, 4, 1));
        due(true, () -> m.sees(0, 2, 0));
        due(true, () -> m.sees(0, 1, 0));
        due(true, () -> m.sees(3, 3, 0));
        wrongCells(c -> m.sees(c, 0, 100));
        wrongCells(c -> m.sees(0, c, 100));
        due(ARGUMENT, () -> m.sees(0, 0, -1));
        due(ARGUMENT, () -> m.sees(0, 0, 100));

        promise = 39;
        due(true, () -> (m.viewshed(0, 0) & cells(0, 1, 2, 3, 4)) == cells(0, 1, 2));
        due(true, () -> (m.viewshed(0, 2) & cells(0, 1, 2, 3, 4)) == cells(0, 1, 2, 4));
        due(1023L, () -> m.viewshed(2, 99));
        wrongCells(c -> m.viewshed(c, 100));
        due(ARGUMENT, () -> m.viewshed(0, -1));
        due(ARGUMENT, () -> m.viewshed(0, 100));
        m.resize(8, 8);
        due(-1L, () -> m.viewshed(63, 0));
    }

    private static void whatWouldBe() {
        grid(40, 3, 5, 9, 9, 9, 2, 9, 9, 9, 9);
        int changes = m.count(10);
        due(7, () -> m.depthsIf(4, 2));
        due(0, () -> m.depthsIf(4, 9));
        due(5, () -> m.depthsIf(1, 7));
        due(7, () -> m.depthsIf(0, 0));
        due(7 * 90 + 97, () -> m.depthsIf(0, 99));
        due(2, () -> m.cell(4, 0));
        due(changes, () -> m.count(10));
        wrongCells(c -> m.depthsIf(c, 100));
        due(ARGUMENT, () -> m.depthsIf(0, -1));
        due(ARGUMENT, () -> m.depthsIf(0, 100));

        fresh(41);
        due(25, () -> m.leavingIf(24, 0));
        due(24, () -> m.leavingIf(24, 9));
        due(16, () -> m.leavingIf(0, 9));
        due(0, () -> m.cell(0, 2));
        due(0, () -> m.count(10));
        wrongCells(c -> m.leavingIf(c, 10));
        due(ARGUMENT, () -> m.leavingIf(0, -1));
        due(ARGUMENT, () -> m.leavingIf(0, 10));

        fresh(42);
        due(24, () -> m.mouthIf(23, 24));
        due(0, () -> m.mouthIf(1, 24));
        due(0, () -> m.mouthIf(24, 0));
        due(12, () -> m.mouthIf(12, 12));
        due(1, () -> m.count(2));
        due(0, () -> m.count(10));
        wrongCells(c -> m.mouthIf(c, 0));
        wrongCells(c -> m.mouthIf(0, c));
    }

    private static void texts() {
        fresh(43);
        for (int code : new int[] {0, 10, 32, 127, 255, 65535}) {
            due(ARGUMENT, () -> m.append((char) code));
        }
        due(1, () -> m.append((char) 33));
        due(2, () -> m.append((char) 126));
        for (int k = 3; k <= 60; k++) {
            int length = k;
            due(length, () -> m.append('x'));
        }
        due(STATE, () -> m.append('x'));
        due(ARGUMENT, () -> m.append(' '));
        due(60, () -> m.count(9));
        due(0, () -> m.count(10));

        fresh(44);
        well(4, "h7=12;r24=9;s0=3;o12+");
        due(12, () -> m.cell(7, 0));
        due(9, () -> m.cell(24, 1));
        due(3, () -> m.cell(0, 2));
        due(1, () -> m.cell(12, 3));
        due(1, () -> m.count(10));
        due(ELEMENT, () -> m.errorPosition());
        due(0, () -> m.undo());
        due(50, () -> m.cell(7, 0));
        due(0, () -> m.cell(12, 3));
        // Commands go by turns: the later one stands, and the outlet may go when there is another one.
        well(3, "h1=1;h1=0;h1=99");
        due(99, () -> m.cell(1, 0));
        well(2, "o3+;o0-");
        due(0, () -> m.cell(0, 3));
        type("h1=5;o0+;o3-;o0-;r1=4");
        due(STATE, () -> m.execute());
        due(0, () -> m.count(9));
        due(99, () -> m.cell(1, 0));
        due(1, () -> m.cell(3, 3));
        due(2, () -> m.count(10));
        due(ELEMENT, () -> m.errorPosition());
        // An error in the text goes before the only outlet.
        error(4, "o3-;x");
        well(1, "o7-");
        due(4, () -> m.errorPosition());
        type("o3-");
        due(STATE, () -> m.execute());
        due(4, () -> m.errorPosition());
        well(15, "o1+;o1-;o1+;o1-;o1+;o1-;o1+;o1-;o1+;o1-;o1+;o1-;o1+;o1-;o1+");
    }

    private static void textErrors() {
        fresh(45);
        due(ELEMENT, () -> m.errorPosition());
        error(0, "");
        error(0, ";");
        error(0, "x");
        error(0, "H1=1");
        error(1, "h");
        error(1, "h=");
        error(2, "h1");
        error(3, "h1=");
        error(3, "h1=-5");
        error(5, "h1=5;");
        error(5, "h1=5;;");
        error(4, "h1=5x");
        error(6, "h1=5;h");
        error(2, "h01=5");
        error(2, "h0");
        error(2, "h00=5");
        error(4, "h1=05");
        error(5, "h1=100");
        error(3, "h111=1");
        error(1, "h25=1");
        error(1, "h30");
        error(1, "h99x");
        error(5, "o1+;ox9");
        error(4, "r1=10");
        error(4, "s1=10");
        error(3, "r1=");
        error(3, "s1=x");
        error(2, "r1-1");
        error(2, "o1");
        error(2, "o1=");
        error(3, "o1++");
        error(0, "1");
        error(2, "h1+");
        error(2, "o0=1");
        m.resize(2, 2);
        due(2, () -> m.errorPosition());
        error(1, "h4=1");
        error(1, "h9");
        error(1, "h10=1");
        error(5, "o3+;o4+");
        well(1, "h3=1");
        due(5, () -> m.errorPosition());
        well(1, "h0=0");
        due(0, () -> m.cell(0, 0));
    }

    private static void maps() {
        grid(46, 3, 9, 5, 2, 7, 3, 1, 4, 8, 0);
        m.setOutlet(8, true);
        m.setOutlet(0, false);
        String map = ">>v/>>v/^>o";
        for (int k = 0; k < map.length(); k++) {
            int index = k;
            due(map.charAt(k), () -> m.map(index));
        }
        due(INDEX, () -> m.map(-1));
        due(INDEX, () -> m.map(map.length()));
        due(INDEX, () -> m.map(LOW));
        due(INDEX, () -> m.map(HIGH));
        m.resize(2, 8);
        due('<', () -> m.map(1));
        due('/', () -> m.map(2));
        due('^', () -> m.map(22));
        due(INDEX, () -> m.map(23));
    }

    private static void undoing() {
        fresh(47);
        // Each kind of change can be taken back, also if nothing is different.
        m.resize(3, 3);
        m.scatter(1, 9);
        m.setHeight(0, m.cell(0, 0));
        m.raise(0, 0, 0);
        m.setRain(0, 1);
        m.setSoak(0, 0);
        m.setOutlet(0, true);
        m.setThreshold(5);
        due(8, () -> m.count(10));
        m.resize(8, 2);
        due(8, () -> m.count(10));
        due(7, () -> m.undo());
        due(3, () -> m.count(0));
        for (int k = 6; k >= 0; k--) {
            int left = k;
            due(left, () -> m.undo());
        }
        // The first change was forgotten, so that its size stays, but what was scattered is gone.
        due(STATE, () -> m.undo());
        due(3, () -> m.count(0));

        fresh(47);
        m.setThreshold(9);
        m.resize(2, 2);
        m.save();
        type("h1=3");
        m.execute();
        m.setHeight(3, 1);
        m.fillLake(0);
        m.setHeight(3, 1);
        m.carveLake(0);
        m.restore();
        due(8, () -> m.count(10));
        due(7, () -> m.undo());
        due(1, () -> m.cell(3, 0));
        due(6, () -> m.undo());
        due(1, () -> m.cell(3, 0));
        m.undo();
        due(50, () -> m.cell(3, 0));
        due(50, () -> m.cell(1, 0));
        m.undo();
        m.undo();
        due(3, () -> m.cell(1, 0));
        m.undo();
        due(50, () -> m.cell(1, 0));
        m.undo();
        due(5, () -> m.count(0));
        due(9, () -> m.count(3));
        due(0, () -> m.undo());
        due(5, () -> m.count(3));
        // A change after some were taken back counts on from there.
        m.setThreshold(6);
        m.setThreshold(7);
        m.undo();
        m.setThreshold(8);
        due(2, () -> m.count(10));
        m.undo();
        due(6, () -> m.count(3));
        // Calls that throw are no changes, nor are questions, save and append.
        int before = m.count(10);
        due(ARGUMENT, () -> m.resize(1, 1));
        due(INDEX, () -> m.setHeight(-1, 5));
        due(STATE, () -> m.setOutlet(0, false));
        due(ARGUMENT, () -> m.execute());
        m.depthsIf(3, 4);
        m.save();
        m.append('x');
        due(before, () -> m.count(10));
    }

    /** More changes than are kept, with as many taken back: each brings back its own height. */
    private static void undoingInTurn() {
        for (int changes = 9; changes <= 20; changes++) {
            fresh(47);
            for (int k = 1; k <= changes; k++) {
                m.setHeight(0, k);
            }
            for (int k = 1; k <= 8; k++) {
                int left = 8 - k;
                int height = changes - k;
                due(left, () -> m.undo());
                due(height, () -> m.cell(0, 0));
            }
            due(STATE, () -> m.undo());
        }
    }

    /** Cell 0 as any other one: in a lake, as a pool, at a border, as a source. */
    private static void firstCell() {
        grid(14, 3, 1, 9, 2, 9, 9, 9, 9, 9, 5);
        m.setOutlet(8, true);
        m.setOutlet(0, false);
        due(2, () -> m.count(4));
        due(0, () -> m.lakeOf(0));
        due(0, () -> m.lake(0, 0));
        due(8, () -> m.lake(0, 3));
        due(15, () -> m.account(3));
        due(7.5, () -> m.meanDepth());
        due(cells(0, 2), () -> m.pools(8));
        due(0, () -> m.depressionAt(0, 1));
        due(2, () -> m.count(7));
        due(9, () -> m.levelByPools(0));
        due(6, () -> m.contour(9, 2));
        way(0, 0, 1, 2, 5, 8);
        due(2, () -> m.why(0, 0));
        due(cells(0), () -> m.upstream(0));
        due(8, () -> m.fillLake(0));
        due(9, () -> m.cell(0, 0));
        due(0, () -> m.lakeOf(2));
        m.setThreshold(1);
        due(0, () -> m.reachOf(0));
        due(0, () -> m.reach(0, 0));
        due(9, () -> m.water(8, 1));

        // A way with more steps down is no longer than its number of cells.
        grid(19, 4, 2, 3, 4, 5, 5, 5, 5, 5);
        way(3, 3, 2, 1, 0);
        // The greatest height as a start.
        grid(19, 3, 0, 99, 99, 99, 99, 0, 99, 99, 99);
        way(4, 4, 1, 0);
        way(8, 8, 7, 4, 1, 0);
    }

    private static void saving() {
        fresh(48);
        m.setHeight(24, 7);
        m.setRain(24, 6);
        m.setSoak(24, 5);
        m.setOutlet(24, true);
        m.setThreshold(11);
        due(25, () -> m.save());
        due(4, () -> m.resize(2, 2));
        m.setThreshold(12);
        error(0, "z");
        type("ab");

        promise = 49;
        due(25, () -> m.restore());
        due(7, () -> m.cell(24, 0));
        due(6, () -> m.cell(24, 1));
        due(5, () -> m.cell(24, 2));
        due(1, () -> m.cell(24, 3));
        due(11, () -> m.count(3));
        due(2, () -> m.count(9));
        due(0, () -> m.errorPosition());
        due(7, () -> m.undo());
        due(2, () -> m.count(0));
        due(12, () -> m.count(3));
        // It stays saved, also when what was before the saving is taken back.
        for (int k = 0; k < 7; k++) {
            m.undo();
        }
        due(50, () -> m.cell(24, 0));
        due(25, () -> m.restore());
        due(7, () -> m.cell(24, 0));
        m.resize(3, 2);
        due(6, () -> m.save());
        m.resize(4, 4);
        due(6, () -> m.restore());
        due(3, () -> m.count(0));
        // What is saved is a copy.
        m.setHeight(0, 1);
        m.restore();
        due(50, () -> m.cell(0, 0));
    }
}
