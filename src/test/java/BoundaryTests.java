import java.util.NoSuchElementException;
import java.util.concurrent.Callable;

/**
 * For each sentence of the document that names a boundary case a test of its own, on a new object: the least and the
 * greatest value, what lies one below and one above it, something empty or full, a number that wraps around. That a
 * refused call leaves the state as it was is looked at in RefusalTests.
 */
public final class BoundaryTests {

    private static final Class<?> INDEX = IndexOutOfBoundsException.class;
    private static final Class<?> ARGUMENT = IllegalArgumentException.class;
    private static final Class<?> STATE = IllegalStateException.class;
    private static final Class<?> ELEMENT = NoSuchElementException.class;
    private static final Class<?> ARITHMETIC = ArithmeticException.class;
    private static final int LOW = Integer.MIN_VALUE;
    private static final int HIGH = Integer.MAX_VALUE;

    private static int sentences = 0;
    private static int passed = 0;
    private static int failed = 0;
    private static String sentence = "";
    private static WatershedMapper m;

    public static void main(String[] args) {
        newObjects();
        gridSizes();
        gridCells();
        leftovers();
        levels();
        lakeShapes();
        lakeNumbers();
        slopes();
        ranks();
        ways();
        waters();
        streamCells();
        orders();
        reaches();
        basins();
        pools();
        depressionSequences();
        depressionTrees();
        carving();
        bestWays();
        remedies();
        contours();
        hollows();
        sections();
        sectionNumbers();
        sights();
        buffers();
        commands();
        digits();
        errorPositions();
        missingCells();
        onlyOutlets();
        changes();
        changesWithoutDifference();
        takingBack();
        savingAndRestoring();
        scattering();
        settings();
        raising();
        kindsOfNumbers();
        whatWouldBe();
        maps();
        missingGridCells();
        missingCellsOfQuestions();
        missingLakes();
        numbersOutOfRange();
        lastCalls();
        System.out.println(sentences + " sentences: " + passed + " answers as due, " + failed + " not");
        if (failed != 0) {
            System.exit(1);
        }
    }

    // ---- what the tests are written with ----

    /** Begins the test of a sentence with a new object; the number is that of a promise, 0 for the description. */
    private static void says(int promise, String words) {
        sentence = (promise == 0 ? "description" : "promise " + promise) + ", '" + words + "'";
        sentences++;
        m = new WatershedMapper();
    }

    /** An answer, or the very class of an exception. */
    private static void due(Object want, Callable<?> call) {
        Object got;
        try {
            got = call.call();
        } catch (Exception e) {
            got = e.getClass();
        }
        if (want.equals(got)) {
            passed++;
        } else {
            failed++;
            StackTraceElement[] places = new Throwable().getStackTrace();
            System.out.println(sentence + ", line " + places[1].getLineNumber() + " or " + places[2].getLineNumber()
                    + ": answered " + got + ", due is " + want);
        }
    }

    private interface OfNumber {
        Object answer(int number) throws Exception;
    }

    /** The least and the greatest number are taken, those around them and far away are refused. */
    private static void range(int least, int most, Class<?> refusal, OfNumber call) {
        taken(call, least, most);
        refused(refusal, call, least - 1, most + 1, LOW, HIGH);
    }

    private static void taken(OfNumber call, int... numbers) {
        for (int number : numbers) {
            due(true, () -> call.answer(number) != null);
        }
    }

    private static void refused(Class<?> refusal, OfNumber call, int... numbers) {
        for (int number : numbers) {
            due(refusal, () -> call.answer(number));
        }
    }

    /** Gives the grid another size and rows of heights; cell 0 is its only outlet. */
    private static void grid(int width, int... heights) {
        m.resize(width, heights.length / width);
        for (int c = 0; c < heights.length; c++) {
            m.setHeight(c, heights[c]);
        }
    }

    /** A row of cells over a row of walls, which are as high as can be; cell 0 is the only outlet. */
    private static void row(int... heights) {
        m.resize(heights.length, 2);
        for (int c = 0; c < heights.length; c++) {
            m.setHeight(c, heights[c]);
            m.setHeight(heights.length + c, 99);
        }
    }

    private static void level(int height) {
        m.raise(0, m.count(0) * m.count(1) - 1, -99);
        m.raise(0, m.count(0) * m.count(1) - 1, height);
    }

    /** Makes these cells the only outlets. */
    private static void outlets(int... cells) {
        for (int c : cells) {
            m.setOutlet(c, true);
        }
        for (int c = 0; c < m.count(0) * m.count(1); c++) {
            boolean isOne = false;
            for (int outlet : cells) {
                isOne |= c == outlet;
            }
            if (!isOne) {
                m.setOutlet(c, false);
            }
        }
    }

    private static void type(String text) {
        for (int k = 0; k < text.length(); k++) {
            m.append(text.charAt(k));
        }
    }

    private static void error(int place, String text) {
        type(text);
        due(ARGUMENT, () -> m.execute());
        due(place, () -> m.errorPosition());
        due(0, () -> m.count(9));
    }

    private static void well(int commands, String text) {
        type(text);
        due(commands, () -> m.execute());
        due(0, () -> m.count(9));
    }

    /** The answers of a question to 0, 1, 2 and so on. */
    private static void answers(OfNumber call, int... wanted) {
        for (int k = 0; k < wanted.length; k++) {
            int number = k;
            due(wanted[k], () -> call.answer(number));
        }
    }

    private static void heights(int... wanted) {
        answers(c -> m.cell(c, 0), wanted);
    }

    private static void way(int cell, int... wanted) {
        answers(k -> m.carveWay(cell, k), wanted);
        refused(ELEMENT, k -> m.carveWay(cell, k), -1, wanted.length, LOW, HIGH);
    }

    private static void line(int from, int to, int... wanted) {
        answers(k -> m.sectionCell(from, to, k), wanted);
        refused(ELEMENT, k -> m.sectionCell(from, to, k), -1, wanted.length, LOW, HIGH);
        due(wanted.length, () -> m.section(from, to, 0));
    }

    private static long cells(int... cells) {
        long set = 0;
        for (int c : cells) {
            set |= 1L << c;
        }
        return set;
    }

    // ---- the grid ----

    private static void newObjects() {
        says(1, "Creates a mapper with a grid as at first.");
        answers(what -> m.count(what), 5, 5, 1, 5, 0, 5, 1, 0, 24, 0, 0);
        due(STATE, () -> m.undo());
        due(STATE, () -> m.restore());
        due(ELEMENT, () -> m.errorPosition());
        due(ARITHMETIC, () -> m.meanDepth());
        due(INDEX, () -> m.level(25));

        says(1, "Creates a mapper with a grid as at first (also beside one that was used).");
        m.setHeight(24, 1);
        m.setThreshold(9);
        m.save();
        error(1, "h");
        type("h1=2");
        WatershedMapper used = m;
        m = new WatershedMapper();
        answers(what -> m.count(what), 5, 5, 1, 5, 0, 5, 1, 0, 24, 0, 0);
        due(50, () -> m.cell(24, 0));
        due(STATE, () -> m.restore());
        due(ELEMENT, () -> m.errorPosition());
        m.setHeight(23, 2);
        m.resize(2, 2);
        m = used;
        due(2, () -> m.count(10));
        due(1, () -> m.execute());
        due(1, () -> m.errorPosition());
        due(50, () -> m.cell(23, 0));
        due(25, () -> m.restore());
    }

    private static void gridSizes() {
        says(0, "The grid has a width and a height from 2 to 8, at first 5 and 5.");
        due(5, () -> m.count(0));
        due(5, () -> m.count(1));
        range(2, 8, ARGUMENT, width -> m.resize(width, 5));
        range(2, 8, ARGUMENT, height -> m.resize(5, height));
        due(5, () -> m.count(0));
        due(8, () -> m.count(1));

        says(2, "Throws IllegalArgumentException if a number is not from 2 to 8");
        refused(ARGUMENT, number -> m.resize(number, number), LOW, -1, 0, 1, 9, HIGH);
        refused(ARGUMENT, number -> m.resize(number, 1), 2, 8);
        refused(ARGUMENT, number -> m.resize(9, number), 2, 8);

        says(2, "Returns the number of its cells.");
        due(4, () -> m.resize(2, 2));
        due(16, () -> m.resize(2, 8));
        due(2, () -> m.count(0));
        due(8, () -> m.count(1));
        due(16, () -> m.resize(8, 2));
        due(8, () -> m.count(0));
        due(2, () -> m.count(1));
        due(64, () -> m.resize(8, 8));

        says(2, "Replaces the grid by one of the given size in which everything is as at first");
        m.raise(0, 24, 30);
        for (int c = 0; c < 25; c++) {
            m.setRain(c, 9);
            m.setSoak(c, 9);
            m.setOutlet(c, true);
        }
        m.resize(8, 8);
        for (int c = 0; c < 64; c++) {
            int asked = c;
            due(50, () -> m.cell(asked, 0));
            due(1, () -> m.cell(asked, 1));
            due(0, () -> m.cell(asked, 2));
            due(c == 0 ? 1 : 0, () -> m.cell(asked, 3));
        }

        says(2, "only cell 0 is an outlet");
        outlets(24);
        m.resize(5, 5);
        due(1, () -> m.cell(0, 3));
        due(0, () -> m.cell(24, 3));
        due(1, () -> m.count(2));

        says(2, "The threshold, the buffer, the error position and what is saved stay.");
        m.setThreshold(98);
        m.setHeight(24, 3);
        m.save();
        error(1, "h");
        type("h3=4");
        m.resize(2, 2);
        due(98, () -> m.count(3));
        due(4, () -> m.count(9));
        due(1, () -> m.errorPosition());
        due(1, () -> m.execute());
        heights(50, 50, 50, 4);
        due(25, () -> m.restore());
        due(3, () -> m.cell(24, 0));
    }

    private static void gridCells() {
        says(0, "Its cells are numbered from 0, row by row, from left to right");
        m.resize(3, 2);
        due(4, () -> m.raise(1, 5, 1));
        heights(50, 51, 51, 50, 51, 51);

        says(0, "as far as there are such cells");
        // The last cell of a row and the first one of the next row are no neighbors, nor are the first and the last.
        grid(3, 1, 1, 9, 9, 1, 1);
        due(2, () -> m.contour(5, 1));
        due(4, () -> m.contour(5, 2));
        grid(3, 9, 1, 1, 1, 1, 9);
        due(2, () -> m.contour(5, 1));
        m.resize(3, 2);
        outlets(3);
        answers(c -> c == 3 ? -1 : m.flow(c), 2, 2, 2, -1, 3, 3);
        due(3, () -> m.why(2, 2));

        says(0, "in the directions 0 up (to a lower y), 1 right, 2 down, 3 left");
        m.resize(3, 3);
        outlets(4);
        due(2, () -> m.flow(1));
        due(1, () -> m.flow(3));
        due(3, () -> m.flow(5));
        due(0, () -> m.flow(7));

        says(0, "Each cell has a height from 0 to 99, at first 50, a rain from 0 to 9, at first 1, and a soak");
        answers(what -> m.cell(0, what), 50, 1, 0, 1);
        answers(what -> m.cell(24, what), 50, 1, 0, 0);
        range(0, 99, ARGUMENT, height -> m.setHeight(24, height));
        range(0, 9, ARGUMENT, rain -> m.setRain(24, rain));
        range(0, 9, ARGUMENT, soak -> m.setSoak(24, soak));
        answers(what -> m.cell(24, what), 99, 9, 9, 0);

        says(0, "At first only cell 0 is an outlet; there is always at least one.");
        due(1, () -> m.count(2));
        due(1, () -> m.cell(0, 3));
        due(STATE, () -> m.setOutlet(0, false));
        for (int c = 1; c < 25; c++) {
            m.setOutlet(c, true);
        }
        due(25, () -> m.count(2));
        for (int c = 0; c < 24; c++) {
            int asked = c;
            due(true, () -> m.setOutlet(asked, false));
        }
        due(STATE, () -> m.setOutlet(24, false));
        due(1, () -> m.cell(24, 3));

        says(0, "a cell alone is a way from itself to itself");
        level(0);
        m.setHeight(0, 99);
        due(99, () -> m.level(0));
        way(0, 0);
        due(0, () -> m.route(0, -1));
        line(0, 0, 0);

        says(0, "Sets of cells are longs, with bit c for cell c.");
        m.resize(8, 8);
        due(Long.MIN_VALUE, () -> m.upstream(63));
        due(-1L, () -> m.upstream(0));
        due(-1L, () -> m.viewshed(63, 0));
        m.setHeight(63, 49);
        due(Long.MIN_VALUE, () -> m.pools(49));
        outlets(63);
        m.setHeight(63, 50);
        due(0L, () -> m.pools(50));
        due(1L, () -> m.upstream(0));
    }

    /** What was found out on a larger grid has no part in the answers on a smaller one. */
    private static void leftovers() {
        says(2, "Replaces the grid by one of the given size (as if it had been the first one)");
        for (int size = 2; size <= 5; size++) {
            usedBefore();
            m.resize(size, size);
            m.setThreshold(5);
            asAnew(size, 0);
            usedBefore();
            m.resize(size, size);
            m.setThreshold(5);
            m.scatter(size, 60);
            asAnew(size, size);
        }

        says(2, "Replaces the grid by one of the given size (cell 11 flowed to cell 3, and is no more)");
        m.resize(8, 8);
        for (int c = 0; c < 64; c++) {
            m.setOutlet(c, c != 11);
        }
        due(cells(3, 11), () -> m.upstream(3));
        m.resize(5, 2);
        due(cells(3, 4, 8, 9), () -> m.upstream(3));
    }

    /** An object of which much was asked while its grid was large, wet and high. */
    private static void usedBefore() {
        m = new WatershedMapper();
        m.resize(8, 8);
        m.setThreshold(1);
        m.raise(1, 63, 49);
        m.raise(9, 54, -90);
        for (int c = 0; c < 64; c++) {
            m.setRain(c, 9);
        }
        m.setOutlet(63, true);
        m.count(6);
        m.count(7);
        m.carveWay(63, 0);
        m.carveWay(9, 0);
        m.viewshed(0, 0);
    }

    private static void asAnew(int side, int seed) {
        WatershedMapper used = m;
        WatershedMapper anew = new WatershedMapper();
        anew.resize(side, side);
        if (seed > 0) {
            anew.scatter(seed, 60);
        }
        for (OfMapper question : QUESTIONS) {
            for (int number = 0; number < side * side; number++) {
                Object wanted = answered(question, anew, number);
                Object got = answered(question, used, number);
                due(wanted, () -> got);
            }
        }
    }

    private interface OfMapper {
        Object answer(WatershedMapper mapper, int number);
    }

    private static Object answered(OfMapper question, WatershedMapper mapper, int number) {
        try {
            return question.answer(mapper, number);
        } catch (RuntimeException e) {
            return e.getClass();
        }
    }

    private static final OfMapper[] QUESTIONS = {(x, c) -> x.level(c), (x, c) -> x.levelByPools(c),
        (x, c) -> x.lakeOf(c), (x, c) -> x.carveWay(c, 1), (x, c) -> x.flow(c), (x, c) -> x.why(c, 2),
        (x, c) -> x.upstream(c), (x, c) -> x.water(c, 0), (x, c) -> x.reachOf(c), (x, c) -> x.depressionAt(c, 40),
        (x, c) -> x.count(c % 10), (x, c) -> x.account(c % 6), (x, c) -> x.lake(0, c % 7), (x, c) -> x.reach(0, c % 5),
        (x, c) -> x.meanDepth()};

    // ---- filling ----

    private static void levels() {
        says(0, "The level of a cell is the least number m such that there is a way on which no cell has a height");
        row(1, 5, 3);
        answers(c -> m.level(c), 1, 5, 5, 99, 99, 99);
        m.setHeight(1, 4);
        due(4, () -> m.level(2));
        m.setHeight(1, 3);
        due(3, () -> m.level(2));
        m.setHeight(1, 2);
        due(3, () -> m.level(2));

        says(0, "The level of a cell (the least and the greatest one)");
        level(0);
        due(0, () -> m.level(24));
        due(0, () -> m.levelByPools(24));
        m.setHeight(0, 99);
        due(99, () -> m.level(24));
        due(99, () -> m.levelByPools(24));
        m.setHeight(0, 98);
        due(98, () -> m.level(24));
        m.setHeight(24, 99);
        due(99, () -> m.level(24));
        due(99, () -> m.levelByPools(24));

        says(0, "The level of a cell (the outlet is the highest cell on the way)");
        row(7, 3, 2);
        answers(c -> m.level(c), 7, 7, 7, 99, 99, 99);
        answers(c -> m.levelByPools(c), 7, 7, 7, 99, 99, 99);

        says(0, "The level of a cell (of two ways the lower one)");
        grid(3, 0, 9, 5, 8, 9, 9, 7, 6, 1);
        due(8, () -> m.level(8));
        m.setHeight(3, 9);
        due(9, () -> m.level(8));
        m.setOutlet(7, true);
        due(6, () -> m.level(8));

        says(12, "Throws IndexOutOfBoundsException if there is no such cell");
        range(0, 24, INDEX, c -> m.level(c));
        m.resize(2, 2);
        range(0, 3, INDEX, c -> m.level(c));
        m.resize(8, 8);
        range(0, 63, INDEX, c -> m.level(c));

        says(13, "the rim of the depression without a parent whose last pool contains the cell");
        // The inner depressions end at 5; only the one that joins them has no parent.
        row(9, 3, 5, 4);
        answers(c -> m.levelByPools(c), 9, 9, 9, 9);

        says(13, "or the height of the cell if there is none");
        row(3, 4, 5);
        answers(c -> m.levelByPools(c), 3, 4, 5, 99, 99, 99);
        range(0, 5, INDEX, c -> m.levelByPools(c));
        m.setHeight(0, 9);
        answers(c -> m.levelByPools(c), 9, 9, 9, 99, 99, 99);
        m.setHeight(0, 3);
        answers(c -> m.levelByPools(c), 3, 4, 5, 99, 99, 99);
    }

    private static void lakeShapes() {
        says(0, "A lake is a set of cells with depths greater than 0");
        row(1, 5, 4);
        due(1, () -> m.count(4));
        due(1, () -> m.lake(0, 3));
        m.setHeight(2, 5);
        due(0, () -> m.count(4));
        due(INDEX, () -> m.lake(0, 0));
        due(ELEMENT, () -> m.lakeOf(2));
        m.setHeight(2, 6);
        due(0, () -> m.count(4));

        says(0, "and the same level, as large as possible");
        row(1, 5, 4, 5, 4, 3);
        // Cell 3 has the level 5 as well, but no depth, and parts the lakes.
        due(2, () -> m.count(4));
        answers(c -> c < 2 || c == 3 ? -1 : m.lakeOf(c), -1, -1, 0, -1, 1, 1);
        m.setHeight(3, 4);
        due(1, () -> m.count(4));
        due(4, () -> m.lake(0, 1));

        says(0, "in which there is a way between any two cells within the set");
        grid(3, 9, 9, 9, 9, 4, 9, 9, 9, 4);
        due(2, () -> m.count(4));
        m.setHeight(5, 8);
        due(1, () -> m.count(4));
        due(11, () -> m.lake(0, 3));

        says(0, "A lake is a set of cells (all cells but the outlet)");
        m.resize(8, 8);
        level(0);
        m.setHeight(0, 99);
        due(1, () -> m.count(4));
        answers(what -> m.lake(0, what), 1, 63, 99, 6237, 1, 99, 0);
        due(99.0, () -> m.meanDepth());
        due(6237, () -> m.account(3));

        says(14, "Throws IndexOutOfBoundsException if there is no such lake");
        due(INDEX, () -> m.lake(0, 0));
        row(1, 5, 4, 5, 4, 3);
        range(0, 1, INDEX, lake -> m.lake(lake, 0));
        range(0, 1, INDEX, lake -> m.remedy(lake));
        refused(INDEX, lake -> m.fillLake(lake), -1, 2, LOW, HIGH);
        refused(INDEX, lake -> m.carveLake(lake), -1, 2, LOW, HIGH);
        due(2, () -> m.count(4));
        due(3, () -> m.fillLake(1));
        due(1, () -> m.count(4));
        due(INDEX, () -> m.fillLake(1));
        due(1, () -> m.fillLake(0));
        due(INDEX, () -> m.fillLake(0));
        due(INDEX, () -> m.carveLake(0));
        due(INDEX, () -> m.remedy(0));

        says(14, "Throws IllegalArgumentException if what is not from 0 to 6");
        row(1, 5, 4);
        range(0, 6, ARGUMENT, what -> m.lake(0, what));
    }

    private static void lakeNumbers() {
        says(0, "Lakes are numbered from 0 in ascending order of their lowest cells.");
        grid(4, 0, 9, 3, 9, 9, 9, 9, 2, 1, 9, 9, 9);
        answers(lake -> m.lake(lake, 0), 2, 7, 8);
        due(3, () -> m.count(4));
        // The lake that reaches from cell 3 to cell 11 comes before the one of cell 8.
        grid(4, 5, 1, 9, 2, 9, 1, 9, 1, 2, 9, 9, 1);
        answers(lake -> m.lake(lake, 0), 1, 3, 8);
        answers(lake -> m.lake(lake, 1), 2, 3, 1);

        says(0, "Lakes are numbered (as many as there can be)");
        m.resize(8, 8);
        level(99);
        for (int c = 0; c < 64; c++) {
            if ((c + c / 8) % 2 == 1) {
                m.setHeight(c, 0);
            }
        }
        due(32, () -> m.count(4));
        due(1, () -> m.lake(0, 0));
        due(62, () -> m.lake(31, 0));
        due(31, () -> m.lakeOf(62));
        due(INDEX, () -> m.lake(32, 0));
        due(99, () -> m.fillLake(31));
        due(31, () -> m.count(4));

        says(0, "its bottom is its cell with the least height, of several the lowest one");
        row(9, 4, 3, 3, 2, 2, 5);
        due(4, () -> m.lake(0, 4));
        m.setHeight(6, 2);
        due(4, () -> m.lake(0, 4));
        m.setHeight(6, 1);
        due(6, () -> m.lake(0, 4));

        says(14, "6 for the first cell on the route of its bottom that does not belong to the lake");
        row(1, 5, 4, 3, 2);
        due(1, () -> m.lake(0, 6));
        m.setHeight(0, 5);
        m.setHeight(1, 1);
        due(0, () -> m.lake(0, 6));

        says(15, "Throws java.util.NoSuchElementException if its depth is 0");
        row(5, 5, 4, 6);
        refused(ELEMENT, c -> m.lakeOf(c), 0, 1, 3, 4);
        due(0, () -> m.lakeOf(2));
        refused(INDEX, c -> m.lakeOf(c), -1, 8, LOW, HIGH);

        says(17, "the height of each of its cells becomes its level");
        row(9, 4, 3, 3, 2, 2, 5);
        due(5 + 6 + 6 + 7 + 7 + 4, () -> m.fillLake(0));
        heights(9, 9, 9, 9, 9, 9, 9, 99);

        says(20, "Throws ArithmeticException if there are no such cells");
        due(ARITHMETIC, () -> m.meanDepth());
        m.setHeight(24, 49);
        due(1.0, () -> m.meanDepth());
        m.setHeight(23, 48);
        due(1.5, () -> m.meanDepth());
        m.setHeight(20, 49);
        due(4.0 / 3.0, () -> m.meanDepth());
        m.resize(2, 2);
        due(ARITHMETIC, () -> m.meanDepth());
    }

    // ---- flow ----

    private static void slopes() {
        says(0, "A cell is sloping if it is no outlet and has a neighbor whose level is less than its own");
        row(5, 6, 6);
        answers(c -> m.why(c, 0), 0, 1, 2, 1, 1, 1);
        m.setHeight(0, 6);
        answers(c -> m.why(c, 0), 0, 2, 2, 1, 1, 1);

        says(0, "it is flat if it is no outlet and has none");
        due(24, () -> m.count(8));
        m.setHeight(0, 49);
        due(22, () -> m.count(8));
        for (int c = 0; c < 25; c++) {
            m.setOutlet(c, true);
        }
        due(0, () -> m.count(8));
        m.resize(8, 8);
        due(63, () -> m.count(8));

        says(0, "A cell is sloping (an outlet above its neighbors is none)");
        grid(2, 9, 1, 1, 1);
        outlets(0, 3);
        answers(what -> m.why(0, what), 0, 0, 0);
        due(ELEMENT, () -> m.flow(0));

        says(0, "A sloping cell flows to the neighbor with the least level");
        // Cell 1 is lower than cell 5, but its level is 60.
        grid(3, 70, 10, 70, 70, 60, 20, 70, 70, 5);
        outlets(8);
        due(1, () -> m.flow(4));
        due(1, () -> m.why(4, 1));
        due(2, () -> m.flow(1));

        says(0, "of several, it is the one in the lowest direction");
        grid(3, 99, 5, 99, 5, 9, 5, 99, 5, 99);
        outlets(1, 3, 5, 7);
        due(0, () -> m.flow(4));
        due(4, () -> m.why(4, 1));
        m.setHeight(1, 6);
        due(1, () -> m.flow(4));
        due(3, () -> m.why(4, 1));
        m.setHeight(5, 6);
        due(2, () -> m.flow(4));
        due(2, () -> m.why(4, 1));
        m.setHeight(7, 6);
        due(3, () -> m.flow(4));
        due(1, () -> m.why(4, 1));

        says(0, "of several, it is the one in the lowest direction (of a flat cell)");
        grid(3, 9, 5, 9, 5, 5, 5, 9, 5, 9);
        outlets(1, 3, 5, 7);
        due(0, () -> m.flow(4));
        due(4, () -> m.why(4, 1));
        outlets(3, 5, 7);
        due(1, () -> m.flow(4));
        outlets(3, 7);
        due(2, () -> m.flow(4));
        due(2, () -> m.why(4, 1));
        outlets(3);
        due(3, () -> m.flow(4));
        due(1, () -> m.why(4, 1));

        says(22, "Throws IllegalArgumentException if what is not from 0 to 2");
        range(0, 2, ARGUMENT, what -> m.why(12, what));
        range(0, 24, INDEX, c -> m.why(c, 0));
    }

    private static void ranks() {
        says(0, "The rank of a cell is 0 for outlets and sloping cells");
        row(5, 6, 6, 6);
        answers(c -> m.why(c, 2), 0, 0, 1, 2, 0, 0, 0, 0);

        says(0, "the least number of steps of a way from it to a cell with the rank 0");
        due(8, () -> m.why(24, 2));
        m.setHeight(24, 49);
        due(8, () -> m.why(24, 2));
        m.setOutlet(24, true);
        m.setHeight(24, 50);
        due(4, () -> m.why(4, 2));
        due(1, () -> m.why(23, 2));
        m.resize(8, 8);
        due(14, () -> m.why(63, 2));

        says(0, "on which all cells have the same level");
        // The outlet 0 is next to cell 1, but higher than its level.
        row(9, 1, 1, 5);
        outlets(0, 3);
        answers(c -> m.level(c), 9, 5, 5, 5);
        answers(c -> m.why(c, 2), 0, 2, 1, 0);
        due(1, () -> m.flow(1));
        due(3, () -> m.route(1, -1));

        says(0, "on which all cells have the same level (the longest way)");
        snake(60);
        due(34, () -> m.why(48, 2));
        due(1, () -> m.why(48, 1));
        due(1, () -> m.flow(48));
        due(0, () -> m.why(8, 2));
        // From the wall behind cell 48 it is a step more.
        due(35, () -> m.basin(0, 3));

        says(21, "Throws java.util.NoSuchElementException if it is an outlet");
        due(ELEMENT, () -> m.flow(0));
        due(3, () -> m.flow(1));
        m.setOutlet(1, true);
        due(ELEMENT, () -> m.flow(1));
        taken(c -> m.flow(c), 2, 24);
        refused(INDEX, c -> m.flow(c), -1, 25, LOW, HIGH);

        says(22, "1 for the number of neighbors among which the lowest direction was taken, 0 for an outlet");
        due(0, () -> m.why(0, 1));
        due(1, () -> m.why(1, 1));
        due(2, () -> m.why(24, 1));
    }

    /** A flat way of 35 cells from cell 48 to cell 0, with walls between its rows. */
    private static void snake(int wall) {
        m.resize(8, 8);
        for (int y = 1; y < 8; y += 2) {
            m.raise(y * 8, y * 8 + 7, wall - 50);
        }
        m.setHeight(15, 50);
        m.setHeight(24, 50);
        m.setHeight(47, 50);
    }

    private static void ways() {
        says(23, "the index, from 0 for the cell itself, or -1 for the mouth");
        row(1, 2, 3, 4);
        answers(k -> m.route(3, k), 3, 2, 1, 0);
        due(0, () -> m.route(3, -1));

        says(23, "Throws java.util.NoSuchElementException if index is below -1, or there is no such index");
        row(1, 2, 3, 4);
        refused(ELEMENT, k -> m.route(3, k), -2, 4, LOW, HIGH);
        refused(ELEMENT, k -> m.route(0, k), -2, 1, LOW, HIGH);
        due(0, () -> m.route(0, 0));
        range(0, 7, INDEX, c -> m.route(c, 0));

        says(0, "The route of a cell goes on up to an outlet, the mouth of the cell");
        // The outlet 2 ends the route, though it goes down from there.
        row(1, 2, 3, 4);
        outlets(0, 2);
        due(2, () -> m.route(3, -1));
        due(ELEMENT, () -> m.route(3, 2));
        due(0, () -> m.route(1, -1));

        says(0, "The route of a cell (the longest one)");
        snake(60);
        due(0, () -> m.route(48, 34));
        due(1, () -> m.route(48, 33));
        due(ELEMENT, () -> m.route(48, 35));

        says(24, "Returns the cells whose routes contain a cell, itself included.");
        due(cells(24), () -> m.upstream(24));
        due((1L << 25) - 1, () -> m.upstream(0));
        m.setOutlet(24, true);
        due(false, () -> (m.upstream(0) & m.upstream(24)) != 0);
        due((1L << 25) - 1, () -> m.upstream(0) | m.upstream(24));
        range(0, 24, INDEX, c -> m.upstream(c));
    }

    // ---- water and streams ----

    private static void waters() {
        says(0, "it soaks as much as its soak says, or all if there is less; the rest is its outflow");
        row(1, 2, 3);
        m.setRain(2, 5);
        m.setSoak(2, 4);
        answers(what -> m.water(2, what), 1, 6, 4, 2);
        m.setSoak(2, 6);
        answers(what -> m.water(2, what), 1, 6, 6, 0);
        m.setSoak(2, 7);
        answers(what -> m.water(2, what), 1, 6, 6, 0);
        m.setSoak(2, 0);
        answers(what -> m.water(2, what), 1, 6, 0, 6);

        says(0, "The inflow of a cell is the sum of the outflows of all cells that flow to it.");
        grid(3, 5, 6, 7, 4, 9, 9);
        outlets(3);
        // Cell 0 is neither the first nor the last one of a route.
        answers(c -> m.water(c, 0), 3, 2, 1, 5, 0, 0);
        answers(c -> m.water(c, 1), 4, 3, 2, 6, 1, 1);

        says(0, "Its water is its inflow plus its rain (nothing at all)");
        m.setRain(24, 0);
        m.setSoak(24, 9);
        answers(what -> m.water(24, what), 0, 0, 0, 0);

        says(0, "Its water is its inflow plus its rain (the most)");
        m.resize(8, 8);
        for (int c = 0; c < 64; c++) {
            m.setRain(c, 9);
        }
        answers(what -> m.water(0, what), 567, 576, 0, 576);
        answers(what -> m.account(what), 576, 576, 0, 0, 3200, 576);

        says(0, "Outlets soak, too; what flows out of an outlet leaves the grid.");
        m.setSoak(0, 9);
        answers(what -> m.water(0, what), 24, 25, 9, 16);
        answers(what -> m.account(what), 25, 16, 9);
        m.setOutlet(24, true);
        m.setSoak(24, 1);
        due(25 - 9 - 1, () -> m.account(1));
        due(10, () -> m.account(2));

        says(25, "Throws IllegalArgumentException if what is not from 0 to 3");
        range(0, 3, ARGUMENT, what -> m.water(0, what));
        range(0, 24, INDEX, c -> m.water(c, 0));

        says(26, "Throws IllegalArgumentException if what is not from 0 to 5");
        range(0, 5, ARGUMENT, what -> m.account(what));

        says(26, "3 for the sum of all depths, 4 for the sum of all heights");
        due(0, () -> m.account(3));
        due(1250, () -> m.account(4));
        m.resize(8, 8);
        level(99);
        due(6336, () -> m.account(4));
        level(0);
        due(0, () -> m.account(4));

        says(26, "5 for the greatest water of a cell");
        for (int c = 0; c < 25; c++) {
            m.setRain(c, 0);
        }
        due(0, () -> m.account(5));
        // The water of cell 24 soaks away at once, and no other cell has any.
        m.setRain(24, 9);
        m.setSoak(24, 9);
        due(9, () -> m.account(5));
        due(0, () -> m.account(1));
    }

    private static void streamCells() {
        says(0, "A cell is a stream cell if its water is at least the threshold");
        m.resize(2, 2);
        m.setThreshold(4);
        due(1, () -> m.count(5));
        due(1, () -> m.order(0));
        m.setThreshold(5);
        due(0, () -> m.count(5));
        due(0, () -> m.order(0));
        m.setThreshold(3);
        due(1, () -> m.count(5));
        m.setThreshold(2);
        due(2, () -> m.count(5));

        says(0, "the threshold, which is from 1 to 99, at first 5");
        due(5, () -> m.count(3));
        range(1, 99, ARGUMENT, threshold -> m.setThreshold(threshold));
        due(99, () -> m.count(3));
        due(ARGUMENT, () -> m.setThreshold(-5));

        says(0, "A cell is a stream cell (the least threshold, and no water)");
        m.setThreshold(1);
        due(25, () -> m.count(5));
        m.setRain(24, 0);
        due(24, () -> m.count(5));
        due(0, () -> m.order(24));
        due(ELEMENT, () -> m.reachOf(24));

        says(0, "A cell is a stream cell (the greatest threshold)");
        m.resize(8, 8);
        m.setThreshold(99);
        due(0, () -> m.count(5));
        m.setRain(0, 9);
        for (int c = 1; c < 26; c++) {
            m.setRain(c, c < 25 ? 2 : 3);
        }
        due(98, () -> m.water(0, 1));
        due(0, () -> m.count(5));
        m.setRain(63, 2);
        due(1, () -> m.count(5));
        due(1, () -> m.order(0));
    }

    /** Two streams of order 2 and two of order 1 flow into the outlet in the middle of nine cells. */
    private static void star() {
        grid(3, 60, 50, 60, 55, 40, 55, 60, 50, 60);
        outlets(4);
        m.setThreshold(1);
    }

    private static void orders() {
        says(0, "Its order is 1 if it has no feeders");
        star();
        answers(c -> m.order(c), 1, 2, 1, 1, 3, 1, 1, 2, 1);

        says(0, "otherwise it is the greatest order of its feeders");
        star();
        m.setRain(8, 0);
        // One feeder of order 2, three of order 1.
        answers(c -> m.order(c), 1, 2, 1, 1, 2, 1, 1, 1, 0);

        says(0, "plus 1 if at least two of them have this order");
        star();
        m.setRain(2, 0);
        m.setRain(8, 0);
        // Four feeders of order 1.
        due(2, () -> m.order(4));
        m.setRain(3, 0);
        due(2, () -> m.order(4));
        m.setRain(5, 0);
        due(2, () -> m.order(4));
        m.setRain(6, 0);
        m.setRain(7, 0);
        // One feeder of order 1.
        due(1, () -> m.order(4));

        says(0, "Its order is 1 if it has no feeders (after it had some)");
        star();
        due(3, () -> m.order(4));
        m.setThreshold(9);
        due(1, () -> m.order(4));
        row(1, 2, 3, 4);
        m.setThreshold(1);
        due(2, () -> m.order(1));
        m.setThreshold(6);
        due(1, () -> m.order(1));

        says(27, "Returns the order, 0 for a cell that is no stream cell.");
        due(0, () -> m.order(24));
        due(1, () -> m.order(0));
        range(0, 24, INDEX, c -> m.order(c));
    }

    private static void reaches() {
        says(0, "A stream cell with no feeders is a source, one with at least two is a junction.");
        star();
        due(9, () -> m.count(6));
        answers(c -> m.reachOf(c), 0, 1, 2, 3, 4, 5, 6, 7, 8);
        answers(reach -> m.reach(reach, 2), 1, 1, 1, 1, 1, 1, 1, 1, 1);
        m.setRain(8, 0);
        // Cell 7 has one feeder now and belongs to the reach of cell 6.
        due(7, () -> m.count(6));
        answers(c -> c == 8 ? -1 : m.reachOf(c), 0, 1, 2, 3, 4, 5, 6, 6, -1);
        answers(what -> m.reach(6, what), 6, 7, 2, 1, 4);

        says(0, "An outlet can be a stream cell, a junction and the only cell of a reach");
        star();
        answers(what -> m.reach(4, what), 4, 4, 1, 3, -1);

        says(0, "a stream cell to which only cells flow that are no stream cells is a source");
        row(1, 2, 3, 4);
        m.setThreshold(6);
        due(4, () -> m.water(2, 1));
        due(ELEMENT, () -> m.reachOf(2));
        due(1, () -> m.count(6));
        answers(what -> m.reach(0, what), 1, 0, 2, 1, -1);

        says(28, "4 for the reach that begins with the cell to which its last cell flows, or -1 if there is none");
        star();
        answers(reach -> m.reach(reach, 4), 1, 4, 1, 4, -1, 4, 7, 4, 7);
        // The water of cell 1 soaks away: cell 1 still feeds, for its water reaches the threshold.
        m.setSoak(1, 9);
        due(4, () -> m.reach(1, 4));
        m.setThreshold(3);
        // Cells 1 and 7 are sources then, and cell 4 is their junction.
        due(3, () -> m.count(6));
        answers(reach -> m.reach(reach, 4), 1, -1, 1);
        // A reach whose last cell flows to a cell that is no stream cell.
        row(1, 2, 3, 4);
        m.setRain(3, 4);
        m.setRain(0, 0);
        m.setSoak(2, 9);
        for (int c = 4; c < 8; c++) {
            m.setRain(c, 0);
        }
        due(1, () -> m.count(6));
        answers(what -> m.reach(0, what), 3, 2, 2, 1, -1);

        says(28, "Throws IndexOutOfBoundsException if there is no such reach");
        range(0, 0, INDEX, reach -> m.reach(reach, 0));
        m.setThreshold(99);
        due(0, () -> m.count(6));
        due(INDEX, () -> m.reach(0, 0));

        says(28, "Throws IllegalArgumentException if what is not from 0 to 4");
        range(0, 4, ARGUMENT, what -> m.reach(0, what));

        says(29, "Throws java.util.NoSuchElementException if it is no stream cell");
        due(0, () -> m.reachOf(0));
        due(ELEMENT, () -> m.reachOf(24));
        m.setThreshold(26);
        due(ELEMENT, () -> m.reachOf(0));
        m.setThreshold(25);
        due(0, () -> m.reachOf(0));
        refused(INDEX, c -> m.reachOf(c), -1, 25, LOW, HIGH);
    }

    private static void basins() {
        says(30, "the set of the cells whose mouth it is (the outlet alone, and all cells)");
        answers(what -> m.basin(0, what), 25, 25, 25, 8);
        for (int c = 1; c < 25; c++) {
            m.setOutlet(c, true);
        }
        m.setRain(24, 0);
        answers(what -> m.basin(24, what), 1, 0, 0, 0);

        says(30, "Throws IllegalStateException if it is no outlet");
        refused(STATE, c -> m.basin(c, 0), 1, 24);
        due(25, () -> m.basin(0, 0));

        says(30, "Throws IndexOutOfBoundsException if there is no such cell");
        refused(INDEX, c -> m.basin(c, 0), -1, 25, LOW, HIGH);

        says(30, "Throws IllegalArgumentException if what is not from 0 to 3");
        range(0, 3, ARGUMENT, what -> m.basin(0, what));

        says(30, "3 for the number of steps of the longest route of its cells");
        row(1, 2, 3, 4);
        due(4, () -> m.basin(0, 3));
        outlets(0, 3);
        // The walls above the row flow down to it.
        due(3, () -> m.basin(0, 3));
        due(1, () -> m.basin(3, 3));

        says(31, "each pair counted once");
        due(0, () -> m.divides());
        for (int c = 1; c < 25; c++) {
            m.setOutlet(c, true);
        }
        due(40, () -> m.divides());
        m.resize(8, 8);
        for (int c = 1; c < 64; c++) {
            m.setOutlet(c, true);
        }
        due(112, () -> m.divides());
        m.resize(2, 2);
        outlets(0, 3);
        due(2, () -> m.divides());
        outlets(3);
        due(0, () -> m.divides());
    }

    // ---- pools ----

    private static void pools() {
        says(0, "For a number L from 0 to 99");
        range(0, 99, ARGUMENT, number -> m.pools(number));
        refused(ARGUMENT, number -> m.depressionAt(12, number), -1, 100, LOW, HIGH);

        says(0, "the lands of L are the sets of cells with heights of at most L");
        row(9, 4, 5);
        due(0L, () -> m.pools(3));
        due(cells(1), () -> m.pools(4));
        due(cells(1, 2), () -> m.pools(5));
        due(cells(1, 2), () -> m.pools(8));
        due(0L, () -> m.pools(9));

        says(0, "A land that contains no outlet is a pool of L.");
        grid(3, 99, 9, 9, 9, 3, 9, 9, 9, 3);
        due(cells(4, 8), () -> m.pools(3));
        m.setOutlet(8, true);
        due(cells(4), () -> m.pools(3));
        due(0L, () -> m.pools(9));

        says(0, "A land that contains no outlet (the least and the greatest number)");
        m.resize(2, 2);
        level(0);
        due(0L, () -> m.pools(0));
        m.setHeight(0, 99);
        due(cells(1, 2, 3), () -> m.pools(0));
        due(cells(1, 2, 3), () -> m.pools(98));
        due(0L, () -> m.pools(99));

        says(33, "Throws java.util.NoSuchElementException if no pool of this number contains the cell");
        row(9, 4, 5, 9, 9);
        due(ELEMENT, () -> m.depressionAt(1, 3));
        due(0, () -> m.depressionAt(1, 4));
        due(ELEMENT, () -> m.depressionAt(2, 4));
        due(0, () -> m.depressionAt(2, 5));
        due(0, () -> m.depressionAt(1, 8));
        due(ELEMENT, () -> m.depressionAt(1, 9));
        due(ELEMENT, () -> m.depressionAt(0, 9));
        due(ELEMENT, () -> m.depressionAt(0, 0));
        due(ELEMENT, () -> m.depressionAt(4, 99));
        refused(INDEX, c -> m.depressionAt(c, 5), -1, 10, LOW, HIGH);
    }

    private static void depressionSequences() {
        says(0, "each of them but the first contains exactly one pool of the number before");
        // New cells join the pool without a pool of their own.
        row(9, 4, 5, 6);
        due(1, () -> m.count(7));
        answers(what -> m.depression(0, what), 4, 8, 3, 5 + 4 + 3, 1, -1, 0, 0);

        says(0, "It begins with a pool that contains no pool, or at least two, of the number before");
        row(9, 4, 6, 5);
        due(3, () -> m.count(7));
        answers(what -> m.depression(0, what), 4, 5, 1, 2, 1, 2, 0, 1);
        answers(what -> m.depression(1, what), 5, 5, 1, 1, 3, 2, 0, 1);
        answers(what -> m.depression(2, what), 6, 8, 3, 5 + 3 + 4, 1, -1, 2, 0);

        says(0, "or a pool of 0");
        row(9, 0, 1, 0);
        due(3, () -> m.count(7));
        answers(what -> m.depression(0, what), 0, 0, 1, 1, 1, 2, 0, 1);
        answers(what -> m.depression(1, what), 0, 0, 1, 1, 3, 2, 0, 1);
        answers(what -> m.depression(2, what), 1, 8, 3, 26, 1, -1, 2, 0);

        says(0, "as long as possible (the longest one)");
        m.resize(2, 2);
        level(99);
        m.setHeight(3, 0);
        due(1, () -> m.count(7));
        answers(what -> m.depression(0, what), 0, 98, 1, 99, 3, -1, 0, 0);
        due(0, () -> m.depressionAt(3, 0));
        due(0, () -> m.depressionAt(3, 98));
        due(ELEMENT, () -> m.depressionAt(3, 99));

        says(0, "as long as possible (the shortest one)");
        m.setHeight(24, 49);
        answers(what -> m.depression(0, what), 49, 49, 1, 1, 24, -1, 0, 0);
        m.setHeight(24, 50);
        due(0, () -> m.count(7));
        due(INDEX, () -> m.depression(0, 0));

        says(0, "Depressions are numbered in ascending order of the numbers L of their first pools");
        row(9, 5, 6, 3, 6, 4);
        answers(d -> m.depression(d, 4), 3, 5, 1, 1);
        answers(d -> m.depression(d, 0), 3, 4, 5, 6);

        says(0, "those with the same number in ascending order of the lowest cells of these pools");
        row(9, 5, 6, 5, 6, 5);
        answers(d -> m.depression(d, 4), 1, 3, 5, 1);
        due(3, () -> m.depression(3, 6));
    }

    private static void depressionTrees() {
        says(0, "its children are the depressions whose last pools are those of the number before");
        grid(3, 99, 10, 99, 10, 50, 10, 99, 10, 99);
        due(5, () -> m.count(7));
        answers(d -> m.depression(d, 6), 0, 0, 0, 0, 4);
        answers(d -> m.depression(d, 5), 4, 4, 4, 4, -1);
        answers(d -> m.depression(d, 1), 49, 49, 49, 49, 98);

        says(0, "its children are the depressions (as many as there can be)");
        m.resize(8, 8);
        for (int c = 0; c < 64; c++) {
            m.setHeight(c, c == 0 ? 99 : (c + c / 8) % 2 == 1 ? 0 : 50);
        }
        due(33, () -> m.count(7));
        due(32, () -> m.depression(32, 6));
        due(62, () -> m.depression(31, 4));
        due(32, () -> m.depression(31, 5));
        due(INDEX, () -> m.depression(33, 0));
        due(31, () -> m.depressionAt(62, 49));
        due(32, () -> m.depressionAt(62, 50));

        says(32, "7 for its depth in the tree: 0 without a parent, otherwise 1 more than that of its parent");
        row(98, 0, 10, 0, 20, 0, 30, 0);
        due(7, () -> m.count(7));
        answers(d -> m.depression(d, 7), 3, 3, 2, 1, 2, 1, 0);
        answers(d -> m.depression(d, 5), 4, 4, 5, 6, 5, 6, -1);
        answers(d -> m.depression(d, 0), 0, 0, 0, 0, 10, 20, 30);
        answers(d -> m.depression(d, 1), 9, 9, 19, 29, 19, 29, 97);

        says(0, "its capacity is the sum, over all cells of its last pool, of the rim minus the height of the cell");
        row(98, 0, 10, 0, 20, 0, 30, 0);
        answers(d -> m.depression(d, 3), 10, 10, 20, 30, 50, 120, 626);
        m.resize(8, 8);
        level(0);
        m.setHeight(0, 99);
        due(6237, () -> m.depression(0, 3));
        due(63, () -> m.depression(0, 2));

        says(32, "Throws IndexOutOfBoundsException if there is no such depression");
        due(INDEX, () -> m.depression(0, 0));
        row(9, 4, 6, 5);
        range(0, 2, INDEX, d -> m.depression(d, 0));

        says(32, "Throws IllegalArgumentException if what is not from 0 to 7");
        row(9, 4, 6, 5);
        range(0, 7, ARGUMENT, what -> m.depression(0, what));
    }

    // ---- carving ----

    private static void carving() {
        says(0, "the height of its first cell stays; each further cell gets the lesser one");
        row(1, 4, 3, 6, 4);
        way(4, 4, 3, 2, 1, 0);
        due(2, () -> m.carveLake(1));
        heights(1, 3, 3, 4, 4);

        says(0, "The outlet at the end of a way can be lowered, too.");
        row(5, 3, 6, 4);
        due(4, () -> m.lake(1, 5));
        due(2, () -> m.carveLake(1));
        heights(3, 3, 4, 4);
        row(99, 0);
        due(99, () -> m.lake(0, 5));
        due(1, () -> m.carveLake(0));
        heights(0, 0);

        says(18, "Returns the number of cells whose height is another one then.");
        row(4, 5, 4, 6, 4, 4);
        due(4, () -> m.lake(1, 4));
        due(2, () -> m.carveLake(1));
        heights(4, 4, 4, 4, 4, 4);

        says(0, "The cost of the way is the sum of all differences by which heights are lowered by that.");
        m.resize(8, 8);
        level(99);
        m.setHeight(63, 0);
        due(14 * 99, () -> m.lake(0, 5));
        way(63, 63, 55, 47, 39, 31, 23, 15, 7, 6, 5, 4, 3, 2, 1, 0);
        due(14, () -> m.carveLake(0));
        due(49 * 99, () -> m.account(4));

        says(0, "The cost of the way (the least one)");
        row(5, 5, 5);
        way(2, 2, 1, 0);
        row(5, 6, 5);
        due(1, () -> m.lake(0, 5));
        due(1, () -> m.carveLake(0));
        heights(5, 5, 5);
    }

    private static void bestWays() {
        says(0, "The best way of a cell is the one with the least cost");
        snake(51);
        // Along the snake nothing is lowered; over a wall it is only 1.
        due(48, () -> m.carveWay(48, 0));
        due(0, () -> m.carveWay(48, 34));
        due(ELEMENT, () -> m.carveWay(48, 35));
        due(true, () -> {
            long met = 0;
            for (int k = 0; k < 35; k++) {
                met |= 1L << m.carveWay(48, k);
            }
            return Long.bitCount(met) == 35;
        });

        says(0, "of several, the one with the fewest cells");
        snake(50);
        way(48, 48, 40, 32, 24, 16, 8, 0);
        // A pit that is entered makes the rest dearer, and the way round it is longer.
        grid(3, 50, 50, 50, 50, 40, 50, 50, 50, 50);
        way(5, 5, 2, 1, 0);
        outlets(3);
        way(5, 5, 2, 1, 0, 3);

        says(0, "of several, the one with the fewest cells (a cell that is lower counts like any other)");
        row(4, 4, 5, 5, 5);
        outlets(0, 4);
        way(2, 2, 3, 4);
        row(5, 5, 5, 4, 4);
        outlets(0, 4);
        way(2, 2, 3, 4);
        m.setOutlet(1, true);
        way(2, 2, 1);

        says(0, "The best way of a cell (a pit in cell 0 is none for a way)");
        row(1, 5, 6);
        outlets(2);
        way(1, 1, 2);
        way(0, 0, 1, 2);

        says(0, "of several, the first one by the directions of its steps, compared from the first step on");
        m.resize(3, 3);
        outlets(2);
        way(6, 6, 3, 0, 1, 2);
        m.setHeight(0, 51);
        way(6, 6, 3, 4, 1, 2);
        m.setHeight(1, 51);
        way(6, 6, 3, 4, 5, 2);
        m.setHeight(3, 51);
        way(6, 6, 7, 4, 5, 2);
        m.setHeight(4, 51);
        way(6, 6, 7, 8, 5, 2);
        m.setHeight(8, 51);
        // Each way costs 1 at least now.
        way(6, 6, 7, 4, 5, 2);

        says(0, "The best way of an outlet is the outlet alone.");
        row(9, 1, 1);
        outlets(0, 1);
        way(0, 0);
        way(1, 1);
        way(2, 2, 1);

        says(0, "only the last cell of the way is an outlet");
        row(9, 9, 5);
        outlets(0, 1);
        way(2, 2, 1);
        due(4, () -> m.lake(0, 5));

        says(19, "Throws java.util.NoSuchElementException if there is no such index");
        row(1, 2, 3);
        refused(ELEMENT, k -> m.carveWay(2, k), -1, 3, LOW, HIGH);
        due(0, () -> m.carveWay(2, 2));
        range(0, 5, INDEX, c -> m.carveWay(c, 0));
    }

    private static void remedies() {
        says(16, "Returns 1 for filling if the volume of the lake is at most the cost, otherwise 2 for carving.");
        row(1, 5, 3);
        due(2, () -> m.lake(0, 3));
        due(2, () -> m.lake(0, 5));
        due(1, () -> m.remedy(0));
        row(1, 5, 3, 4);
        due(3, () -> m.lake(0, 3));
        due(2, () -> m.lake(0, 5));
        due(2, () -> m.remedy(0));
        row(4, 5, 3);
        due(2, () -> m.lake(0, 3));
        due(3, () -> m.lake(0, 5));
        due(1, () -> m.remedy(0));

        says(17, "Returns the volume that it had.");
        row(1, 5, 3, 4);
        due(3, () -> m.fillLake(0));
        heights(1, 5, 5, 5);
        due(0, () -> m.count(4));
    }

    // ---- contours, sections and sights ----

    private static void contours() {
        says(0, "For a number L from 1 to 99, a cell is high if its height is at least L, otherwise low.");
        grid(2, 4, 5, 6, 0);
        due(3, () -> m.contour(4, 0));
        due(2, () -> m.contour(5, 0));
        due(1, () -> m.contour(6, 0));
        due(0, () -> m.contour(7, 0));
        due(3, () -> m.contour(1, 0));
        m.setHeight(3, 1);
        due(4, () -> m.contour(1, 0));
        m.setHeight(3, 98);
        due(0, () -> m.contour(99, 0));
        m.setHeight(3, 99);
        due(1, () -> m.contour(99, 0));

        says(35, "Throws IllegalArgumentException if a number is out of range");
        range(1, 99, ARGUMENT, number -> m.contour(number, 0));
        range(0, 3, ARGUMENT, what -> m.contour(50, what));
        due(ARGUMENT, () -> m.contour(0, 4));

        says(35, "1 for the groups of high cells (none, one and many)");
        answers(what -> m.contour(50, what), 25, 1, 0, 0);
        answers(what -> m.contour(51, what), 0, 0, 0, 0);
        m.resize(8, 8);
        for (int c = 0; c < 64; c++) {
            m.setHeight(c, (c + c / 8) % 2 == 0 ? 60 : 40);
        }
        // Groups that meet at corners alone are not joined; 18 of the low cells are not at the edge.
        answers(what -> m.contour(50, what), 32, 32, 112, 18);

        says(35, "2 for the pairs of neighbors of which one is high and the other is low");
        m.setHeight(0, 49);
        due(2, () -> m.contour(50, 2));
        m.setHeight(1, 49);
        due(3, () -> m.contour(50, 2));
        m.setHeight(12, 49);
        due(7, () -> m.contour(50, 2));
    }

    private static void hollows() {
        says(0, "A hollow is a group of low cells none of which is at the edge of the grid.");
        for (int c = 0; c < 25; c++) {
            boolean isInside = c % 5 > 0 && c % 5 < 4 && c / 5 > 0 && c / 5 < 4;
            m.setHeight(c, 49);
            due(isInside ? 1 : 0, () -> m.contour(50, 3));
            m.undo();
        }
        m.setHeight(12, 49);
        m.setHeight(11, 49);
        due(1, () -> m.contour(50, 3));
        m.setHeight(10, 49);
        due(0, () -> m.contour(50, 3));
        m.setHeight(11, 50);
        due(1, () -> m.contour(50, 3));

        says(0, "A hollow (the smallest grid that has room for one, and none)");
        m.resize(3, 3);
        m.setHeight(4, 0);
        due(1, () -> m.contour(50, 3));
        due(1, () -> m.contour(1, 3));
        m.resize(2, 8);
        m.raise(4, 5, -50);
        due(0, () -> m.contour(50, 3));
        m.resize(8, 2);
        m.raise(3, 12, -50);
        due(0, () -> m.contour(50, 3));

        says(0, "A hollow (the largest one)");
        m.resize(8, 8);
        m.raise(9, 54, -1);
        due(1, () -> m.contour(50, 3));
        due(28, () -> m.contour(50, 0));
        m.setHeight(63, 0);
        due(1, () -> m.contour(50, 3));
        m.setHeight(62, 0);
        due(0, () -> m.contour(50, 3));

        says(0, "A hollow can contain outlets.");
        m.setHeight(12, 49);
        m.setOutlet(12, true);
        due(1, () -> m.contour(50, 3));
    }

    private static void sections() {
        says(0, "for n = 0 it is a alone");
        line(0, 0, 0);
        line(24, 24, 24);

        says(0, "The section from a cell a to a cell b has n + 1 cells (the least and the most)");
        line(0, 1, 0, 1);
        line(6, 0, 6, 0);
        m.resize(8, 8);
        line(0, 63, 0, 9, 18, 27, 36, 45, 54, 63);
        line(63, 0, 63, 54, 45, 36, 27, 18, 9, 0);
        line(56, 7, 56, 49, 42, 35, 28, 21, 14, 7);
        line(7, 0, 7, 6, 5, 4, 3, 2, 1, 0);
        line(0, 56, 0, 8, 16, 24, 32, 40, 48, 56);
        line(0, 15, 0, 1, 2, 3, 12, 13, 14, 15);
        line(15, 0, 15, 14, 13, 12, 3, 2, 1, 0);

        says(0, "where n is the greater one of the absolute differences of their x and of their y");
        line(4, 22, 4, 9, 13, 18, 22);
        line(22, 4, 22, 18, 13, 9, 4);

        says(0, "A quotient that is rounded down is rounded toward smaller numbers, also below 0.");
        line(20, 14, 20, 21, 17, 18, 14);
        line(14, 20, 14, 18, 17, 21, 20);
        line(10, 4, 10, 11, 7, 8, 4);

        says(0, "rounded down (a half is rounded toward the greater number)");
        m.resize(3, 2);
        line(0, 5, 0, 4, 5);
        line(5, 0, 5, 4, 0);
        line(3, 2, 3, 4, 2);
        line(2, 3, 2, 4, 3);

        says(37, "Throws IndexOutOfBoundsException if there is no such cell");
        refused(INDEX, c -> m.sectionCell(c, 0, 0), -1, 25, LOW, HIGH);
        refused(INDEX, c -> m.sectionCell(0, c, 0), -1, 25, LOW, HIGH);
        refused(ELEMENT, k -> m.sectionCell(0, 0, k), -1, 1, LOW, HIGH);
    }

    private static void sectionNumbers() {
        says(36, "1 for the sum of all rises from a cell to the next one, 2 for the sum of all falls");
        row(0, 99, 0, 99, 99);
        answers(what -> m.section(0, 4, what), 5, 198, 99, 99, 0);
        answers(what -> m.section(4, 0, what), 5, 99, 198, 99, 0);
        answers(what -> m.section(3, 4, what), 2, 0, 0, 99, 99);
        answers(what -> m.section(2, 2, what), 1, 0, 0, 0, 0);

        says(36, "5 for its stream cells");
        row(1, 2, 3, 4);
        m.setThreshold(6);
        due(2, () -> m.section(0, 3, 5));
        due(1, () -> m.section(1, 3, 5));
        due(0, () -> m.section(2, 3, 5));
        due(1, () -> m.section(0, 0, 5));
        m.setThreshold(9);
        due(0, () -> m.section(0, 3, 5));

        says(36, "Throws IllegalArgumentException if what is not from 0 to 5");
        range(0, 5, ARGUMENT, what -> m.section(0, 24, what));
        range(0, 24, INDEX, c -> m.section(c, 0, 0));
        range(0, 24, INDEX, c -> m.section(0, c, 0));
    }

    private static void sights() {
        says(0, "with n * (h - E) greater than k * (T - E)");
        row(10, 11, 12);
        due(true, () -> m.sees(0, 2, 0));
        due(true, () -> m.sees(2, 0, 0));
        m.setHeight(1, 12);
        due(false, () -> m.sees(0, 2, 0));
        due(false, () -> m.sees(0, 2, 1));
        due(true, () -> m.sees(0, 2, 2));
        row(10, 5, 0);
        due(true, () -> m.sees(0, 2, 0));
        m.setHeight(1, 6);
        due(false, () -> m.sees(0, 2, 0));

        says(0, "with n * (h - E) greater than k * (T - E) (the longest section)");
        row(10, 11, 12, 13, 14, 15, 16, 17);
        due(true, () -> m.sees(0, 7, 0));
        for (int k = 1; k < 7; k++) {
            int height = m.cell(k, 0);
            m.setHeight(k, height + 1);
            due(false, () -> m.sees(0, 7, 0));
            m.setHeight(k, 0);
            due(true, () -> m.sees(0, 7, 0));
            m.setHeight(k, height);
        }

        says(0, "other than the first and the last one");
        row(0, 0, 99);
        due(true, () -> m.sees(0, 2, 0));
        due(true, () -> m.sees(2, 0, 0));
        due(true, () -> m.sees(1, 2, 0));

        says(38, "possibly the same, which can be seen then");
        due(true, () -> m.sees(0, 0, 0));
        due(true, () -> m.sees(24, 24, 99));

        says(38, "the eye height, 0 to 99");
        row(0, 99, 0);
        due(false, () -> m.sees(0, 2, 98));
        due(false, () -> m.sees(0, 2, 99));
        m.setHeight(1, 49);
        due(false, () -> m.sees(0, 2, 97));
        due(true, () -> m.sees(0, 2, 98));
        due(true, () -> m.sees(0, 2, 99));
        refused(ARGUMENT, eye -> m.sees(0, 2, eye), -1, 100, LOW, HIGH);
        refused(ARGUMENT, eye -> m.sees(0, 0, eye), -1, 100, LOW, HIGH);
        refused(INDEX, c -> m.sees(c, 0, 0), -1, 6, LOW, HIGH);
        refused(INDEX, c -> m.sees(0, c, 0), -1, 6, LOW, HIGH);

        says(39, "Returns the cells that can be seen from a cell, itself included.");
        m.resize(3, 3);
        m.setHeight(4, 51);
        due(511L - cells(5, 7, 8), () -> m.viewshed(0, 0));
        due(511L - cells(5, 7, 8), () -> m.viewshed(0, 1));
        due(511L, () -> m.viewshed(0, 2));
        due(511L, () -> m.viewshed(4, 0));
        due(511L - cells(0), () -> m.viewshed(8, 0));
        range(0, 99, ARGUMENT, eye -> m.viewshed(8, eye));
        range(0, 8, INDEX, c -> m.viewshed(c, 0));
    }

    // ---- texts ----

    private static void buffers() {
        says(0, "A buffer holds at most 60 characters");
        due(0, () -> m.count(9));
        for (int k = 1; k <= 60; k++) {
            int length = k;
            due(length, () -> m.append('h'));
        }
        due(STATE, () -> m.append('h'));
        due(60, () -> m.count(9));
        due(ARGUMENT, () -> m.execute());
        due(1, () -> m.append('h'));

        says(0, "A buffer holds at most 60 characters (a text that fills it)");
        well(9, "h10=10;h11=11;h12=12;h13=13;h14=14;h15=15;h16=16;h17=17;r1=9");
        due(17, () -> m.cell(17, 0));
        due(9, () -> m.cell(1, 1));
        error(59, "h10=10;h11=11;h12=12;h13=13;h14=14;h15=15;h16=16;h17=17;r1=x");
        error(60, "h1=5;h1=5;h1=5;h1=5;h1=5;h1=5;h1=5;h1=5;h1=5;h1=5;h1=5;h1=5;");
        well(15, "o1+;o1-;o1+;o1-;o1+;o1-;o1+;o1-;o1+;o1-;o1+;o1-;o1+;o1-;o1+");

        says(43, "Throws IllegalArgumentException if the code is not from 33 to 126");
        due(1, () -> m.append((char) 33));
        due(2, () -> m.append((char) 126));
        refused(ARGUMENT, code -> m.append((char) code), 0, 32, 127, 128, 255, 256 + 'h', 65535);
        due(2, () -> m.count(9));

        says(43, "Throws IllegalStateException if the buffer has 60 characters");
        type("x".repeat(60));
        refused(STATE, code -> m.append((char) code), 33, 126);
        refused(ARGUMENT, code -> m.append((char) code), 32, 127);

        says(44, "The buffer is empty afterwards, also if an exception is thrown");
        well(1, "h1=5");
        error(0, "x");
        type("o0-");
        due(STATE, () -> m.execute());
        due(0, () -> m.count(9));
        error(0, "");
    }

    private static void commands() {
        says(0, "A text consists of one or more commands with a semicolon between one and the next.");
        error(0, "");
        error(0, ";");
        error(4, "h1=1h2=2");
        error(5, "h1=1;");
        error(5, "h1=1;;h2=2");
        error(0, ";h1=1");
        well(1, "h1=1");
        well(2, "h1=1;h2=2");

        says(0, "h, a cell, an equals sign and a number sets a height");
        well(3, "h1=0;h2=99;h24=9");
        due(0, () -> m.cell(1, 0));
        due(99, () -> m.cell(2, 0));
        due(9, () -> m.cell(24, 0));

        says(0, "r, a cell, an equals sign and a digit sets a rain; s, a cell, an equals sign and a digit");
        well(4, "r1=0;r24=9;s1=9;s24=0");
        due(0, () -> m.cell(1, 1));
        due(9, () -> m.cell(24, 1));
        due(9, () -> m.cell(1, 2));
        due(0, () -> m.cell(24, 2));

        says(0, "o, a cell, and + or - makes the cell an outlet, or no outlet");
        well(2, "o24+;o0-");
        due(0, () -> m.cell(0, 3));
        due(1, () -> m.cell(24, 3));
        well(2, "o24+;o0-");
        due(1, () -> m.count(2));

        says(44, "Executes the commands of the text in the buffer in their order, as one change.");
        well(3, "h1=1;h1=99;h1=2");
        due(2, () -> m.cell(1, 0));
        due(1, () -> m.count(10));
        due(0, () -> m.undo());
        due(50, () -> m.cell(1, 0));

        says(44, "then no command is executed");
        error(10, "h1=1;h2=2;x");
        heights(50, 50, 50);
        type("h1=1;o0-;h2=2");
        due(STATE, () -> m.execute());
        heights(50, 50, 50);
        type("o1+;o0-;o1-;o0+");
        due(STATE, () -> m.execute());
        due(1, () -> m.cell(0, 3));
        due(0, () -> m.cell(1, 3));
        due(0, () -> m.count(10));
    }

    private static void digits() {
        says(0, "Cells and heights are written with one digit or two digits that do not start with 0");
        well(4, "h0=0;h9=9;h10=10;h24=99");
        error(2, "h00=1");
        error(2, "h01=1");
        error(2, "r00=1");
        error(2, "s09=1");
        error(2, "o00+");

        says(0, "a second digit is read whenever the first one is not 0");
        well(1, "h12=34");
        due(34, () -> m.cell(12, 0));
        due(50, () -> m.cell(1, 0));
        error(3, "h123=4");
        error(5, "h1=100");
        error(6, "h10=100");

        says(0, "a second digit of rain or soak is an error");
        error(4, "r1=10");
        error(4, "r1=00");
        error(4, "s1=10");
        error(5, "s12=99");

        says(0, "as is a digit behind a height 0");
        error(4, "h1=00");
        error(4, "h1=09");
        error(5, "h10=01");
        error(4, "h1=0x");
        well(1, "h1=0");
    }

    private static void errorPositions() {
        says(0, "The error position of a text is the index of the first character that is not allowed");
        error(0, "x");
        error(0, "H1=1");
        error(0, "1");
        error(1, "hx");
        error(1, "h;");
        error(1, "h/=1");
        error(1, "h:=1");
        error(2, "h1;");
        error(2, "h1+");
        error(2, "o1=");
        error(3, "h1=;");
        error(3, "h1=/");
        error(3, "h1=:");
        error(3, "r1=/");
        error(3, "s1=:");
        error(3, "h1=-");
        error(4, "h1=1x");
        error(4, "h1=1=");
        error(3, "o1+-");
        error(3, "o1-1");
        error(5, "h1=1;x1=1");
        error(4, "o1+;p1=1");

        says(0, "or the length of the text if it ends too early");
        error(0, "");
        error(1, "h");
        error(1, "r");
        error(1, "s");
        error(1, "o");
        error(2, "h1");
        error(3, "h12");
        error(2, "o0");
        error(3, "h1=");
        error(3, "r1=");
        error(3, "s1=");
        error(4, "o1+;");
        error(5, "o1+;h");

        says(0, "of these, the one that is met first when the text is read from left to right");
        error(1, "h25x");
        error(2, "h1x25");
        error(3, "h1=x;h99=1");
        error(6, "h1=1;h99=1;x");
        error(5, "o24-;x;h99=1");

        says(45, "Throws java.util.NoSuchElementException if none was kept");
        due(ELEMENT, () -> m.errorPosition());
        well(1, "h1=1");
        due(ELEMENT, () -> m.errorPosition());
        type("o0-");
        due(STATE, () -> m.execute());
        due(ELEMENT, () -> m.errorPosition());
        error(0, "");

        says(45, "Returns the error position that was kept last.");
        error(3, "h1=");
        error(0, "");
        error(1, "h");
        well(1, "h1=1");
        due(1, () -> m.errorPosition());
        m.undo();
        m.resize(2, 2);
        m.save();
        m.restore();
        due(1, () -> m.errorPosition());
    }

    private static void missingCells() {
        says(0, "or the first digit of a cell that does not exist");
        well(1, "h24=1");
        error(1, "h25=1");
        error(1, "r25=1");
        error(1, "s25=1");
        error(1, "o25+");
        error(1, "h99=1");
        error(6, "h9=1;h25=1");

        says(0, "or the first digit of a cell that does not exist (the smallest grid)");
        m.resize(2, 2);
        well(4, "h3=1;r3=2;s3=3;o3+");
        error(1, "h4=1");
        error(1, "r4=1");
        error(1, "s9=1");
        error(1, "o4+");
        error(1, "h10=1");
        error(5, "o3+;o4+");

        says(0, "or the first digit of a cell that does not exist (the largest grid)");
        m.resize(8, 8);
        well(2, "h63=1;o63+");
        due(1, () -> m.cell(63, 0));
        error(1, "h64=1");
        error(1, "o64+");

        says(0, "where it is looked whether a cell exists when its number has been read");
        m.resize(3, 3);
        well(1, "h8=1");
        error(1, "h9=1");
        error(1, "h9x");
        m.resize(2, 5);
        well(1, "h9=1");
        error(1, "h10x");
        error(2, "h1x");

        says(0, "a cell that does not exist is an error at its first digit also if the text ends behind its number");
        error(1, "h25");
        error(2, "h2");
        m.resize(2, 2);
        error(1, "h4");
        error(1, "o9");
        error(6, "h1=1;r4");
    }

    private static void onlyOutlets() {
        says(44, "Throws IllegalStateException if a command would make the only outlet no outlet");
        type("o0-");
        due(STATE, () -> m.execute());
        well(1, "o24-");
        well(2, "o24+;o0-");
        type("o24-");
        due(STATE, () -> m.execute());
        due(1, () -> m.cell(24, 3));

        says(44, "as things are when it is its turn");
        type("o0-;o1+");
        due(STATE, () -> m.execute());
        well(2, "o1+;o0-");
        type("o0+;o1-;o0-;o1+");
        due(STATE, () -> m.execute());
        well(4, "o0+;o1-;o1+;o0-");
        due(1, () -> m.count(2));

        says(0, "If the only outlet would be taken away, the error position stays as it was.");
        error(3, "h1=");
        type("h1=1;o0-");
        due(STATE, () -> m.execute());
        due(3, () -> m.errorPosition());

        says(44, "Throws IllegalArgumentException if there is an error in the text (also behind such a command)");
        error(4, "o0-;x");
        error(3, "o0-x");

        says(44, "A text without an error leaves the error position as it was.");
        error(3, "h1=");
        well(1, "h1=1");
        due(3, () -> m.errorPosition());
    }

    // ---- changes ----

    private static void changes() {
        says(0, "At most 8 of them can be taken back by undo, the latest one first; older ones are forgotten.");
        due(STATE, () -> m.undo());
        for (int k = 1; k <= 10; k++) {
            int kept = Math.min(k, 8);
            m.setHeight(12, k);
            due(kept, () -> m.count(10));
        }
        for (int k = 9; k >= 2; k--) {
            int left = k - 2;
            int height = k;
            due(left, () -> m.undo());
            due(height, () -> m.cell(12, 0));
            due(left, () -> m.count(10));
        }
        due(STATE, () -> m.undo());
        due(2, () -> m.cell(12, 0));

        says(0, "At most 8 of them can be taken back (one less than that, and just as many)");
        for (int changes = 7; changes <= 8; changes++) {
            m = new WatershedMapper();
            for (int k = 1; k <= changes; k++) {
                m.setThreshold(10 + k);
            }
            for (int k = changes - 1; k >= 0; k--) {
                int left = k;
                due(left, () -> m.undo());
                due(k == 0 ? 5 : 10 + k, () -> m.count(3));
            }
            due(STATE, () -> m.undo());
        }

        says(47, "Takes back the latest change that was not taken back.");
        m.setHeight(12, 1);
        m.setHeight(12, 2);
        m.undo();
        m.setHeight(12, 3);
        m.undo();
        due(1, () -> m.cell(12, 0));
        m.undo();
        due(50, () -> m.cell(12, 0));
        due(STATE, () -> m.undo());
        m.setHeight(12, 4);
        due(0, () -> m.undo());
        due(50, () -> m.cell(12, 0));

        says(0, "The changes are the calls without an exception of resize, scatter, setHeight, raise, setRain");
        Runnable lake = () -> {
            m.save();
            m.resize(3, 2);
            m.setHeight(2, 40);
            m.setThreshold(7);
        };
        change(lake, () -> m.resize(3, 3));
        change(lake, () -> m.scatter(1, 100));
        change(lake, () -> m.setHeight(2, 0));
        change(lake, () -> m.raise(0, 5, -60));
        change(lake, () -> m.setRain(2, 0));
        change(lake, () -> m.setSoak(2, 9));
        change(lake, () -> m.setOutlet(2, true));
        change(lake, () -> m.setThreshold(99));
        change(lake, () -> executed("h0=2;r1=3;s2=4;o3+;o0-"));
        change(lake, () -> m.fillLake(0));
        change(lake, () -> m.carveLake(0));
        change(lake, () -> m.restore());
    }

    /** A change is counted, and to take it back brings back all that was; each on a new object. */
    private static void change(Runnable beginning, Callable<?> call) {
        m = new WatershedMapper();
        beginning.run();
        String before = picture();
        int number = m.count(10);
        due(true, () -> call.call() != null);
        due(number + 1, () -> m.count(10));
        due(number, () -> m.undo());
        due(before, () -> picture());
    }

    private static int executed(String text) {
        type(text);
        return m.execute();
    }

    private static String picture() {
        StringBuilder picture = new StringBuilder();
        for (int what = 0; what <= 8; what++) {
            picture.append(m.count(what)).append(' ');
        }
        for (int c = 0; c < m.count(0) * m.count(1); c++) {
            for (int what = 0; what <= 3; what++) {
                picture.append(m.cell(c, what)).append(what < 3 ? ',' : ' ');
            }
        }
        return picture.toString();
    }

    private static void changesWithoutDifference() {
        says(0, "also if nothing is different then");
        Runnable nothing = () -> m.save();
        change(nothing, () -> m.resize(5, 5));
        change(nothing, () -> m.setHeight(24, 50));
        change(nothing, () -> m.raise(0, 24, 0));
        change(nothing, () -> m.setRain(24, 1));
        change(nothing, () -> m.setSoak(24, 0));
        change(nothing, () -> m.setOutlet(0, true));
        change(nothing, () -> m.setOutlet(24, false));
        change(nothing, () -> m.setThreshold(5));
        change(nothing, () -> executed("h0=50"));
        change(nothing, () -> executed("o24-"));
        change(nothing, () -> m.restore());
        change(() -> m.scatter(7, 100), () -> m.scatter(7, 100));
        change(() -> m.raise(0, 24, 99), () -> m.raise(0, 24, 1));

        says(0, "The changes are the calls without an exception");
        m.setHeight(24, 49);
        due(ARGUMENT, () -> m.setHeight(24, 100));
        due(STATE, () -> m.setOutlet(0, false));
        due(INDEX, () -> m.fillLake(1));
        due(STATE, () -> m.restore());
        due(ARGUMENT, () -> m.execute());
        due(1, () -> m.count(10));
        m.save();
        m.append('x');
        m.depthsIf(1, 2);
        m.leavingIf(1, 2);
        m.mouthIf(1, 2);
        due(1, () -> m.count(10));
        due(0, () -> m.undo());
        due(50, () -> m.cell(24, 0));
        due(0, () -> m.count(10));
    }

    private static void takingBack() {
        says(0, "What is taken back is the grid with all of its cells, and the threshold.");
        well(1, "h24=9");
        m.setThreshold(9);
        m.setOutlet(24, true);
        m.setOutlet(0, false);
        m.setRain(23, 9);
        m.setSoak(22, 9);
        String before = picture();
        m.resize(2, 2);
        m.setThreshold(1);
        m.undo();
        m.undo();
        due(before, () -> picture());

        says(0, "Taking back brings back the size of the grid, and leaves what is saved.");
        m.resize(8, 8);
        m.resize(2, 8);
        m.save();
        m.resize(8, 2);
        due(2, () -> m.undo());
        due(2, () -> m.count(0));
        due(8, () -> m.count(1));
        due(1, () -> m.undo());
        due(8, () -> m.count(0));
        due(0, () -> m.undo());
        due(5, () -> m.count(0));
        due(INDEX, () -> m.level(25));
        due(16, () -> m.restore());

        says(47, "Takes back the latest change (the buffer and the error position are none)");
        m.setHeight(1, 2);
        error(2, "h1");
        type("h3=4");
        m.undo();
        due(4, () -> m.count(9));
        due(2, () -> m.errorPosition());
        due(1, () -> m.execute());

        says(47, "Throws IllegalStateException if there is none");
        due(STATE, () -> m.undo());
        m.save();
        due(STATE, () -> m.undo());
        m.setHeight(1, 2);
        due(0, () -> m.undo());
        due(STATE, () -> m.undo());
        due(0, () -> m.count(10));
    }

    private static void savingAndRestoring() {
        says(49, "Throws IllegalStateException if nothing was saved");
        due(STATE, () -> m.restore());
        due(25, () -> m.save());
        due(25, () -> m.restore());

        says(48, "Saves the grid with all of its cells, and the threshold, replacing what was saved before.");
        m.setHeight(24, 1);
        m.setThreshold(11);
        due(25, () -> m.save());
        m.resize(2, 2);
        m.setHeight(3, 2);
        m.setThreshold(12);
        due(4, () -> m.save());
        m.resize(8, 8);
        m.setThreshold(13);
        due(4, () -> m.restore());
        heights(50, 50, 50, 2);
        due(12, () -> m.count(3));
        due(INDEX, () -> m.cell(4, 0));

        says(49, "Restores what was saved; it stays saved.");
        m.setOutlet(24, true);
        m.save();
        for (int k = 0; k < 3; k++) {
            m.setOutlet(0, false);
            m.setHeight(24, k);
            due(25, () -> m.restore());
            due(50, () -> m.cell(24, 0));
            due(2, () -> m.count(2));
        }

        says(49, "The buffer and the error position stay.");
        m.save();
        error(1, "h");
        type("h1=9");
        m.restore();
        due(4, () -> m.count(9));
        due(1, () -> m.errorPosition());
        due(1, () -> m.execute());

        says(0, "Restoring is a change that can be taken back like others, and changes before it stay kept.");
        m.save();
        for (int k = 1; k <= 7; k++) {
            m.setHeight(24, k);
        }
        m.restore();
        due(8, () -> m.count(10));
        for (int k = 7; k >= 0; k--) {
            int left = k;
            due(left, () -> m.undo());
            due(k == 0 ? 50 : k, () -> m.cell(24, 0));
        }
        // As one change too many it lets the oldest one go.
        for (int k = 1; k <= 8; k++) {
            m.setHeight(24, k);
        }
        m.restore();
        for (int k = 8; k >= 1; k--) {
            int height = k;
            due(k - 1, () -> m.undo());
            due(height, () -> m.cell(24, 0));
        }
        due(STATE, () -> m.undo());
    }

    // ---- the other numbers ----

    private static void scattering() {
        says(3, "z becomes z * 1103515245 + 12345, with overflow, and the height is (z >>> 16) % range");
        for (int seed : new int[] {LOW, -1, 0, 1, 12345, HIGH}) {
            for (int range : new int[] {1, 2, 99, 100}) {
                m = new WatershedMapper();
                m.scatter(seed, range);
                long z = seed & 0xffffffffL;
                for (int c = 0; c < 25; c++) {
                    z = (z * 1103515245L + 12345L) & 0xffffffffL;
                    int wanted = (int) ((z >>> 16) % range);
                    int asked = c;
                    due(wanted, () -> m.cell(asked, 0));
                }
            }
        }

        says(3, "Throws IllegalArgumentException if range is out of range");
        range(1, 100, ARGUMENT, range -> m.scatter(1, range));
        refused(ARGUMENT, range -> m.scatter(1, range), 0, -100);

        says(3, "Returns the number of different heights.");
        due(1, () -> m.scatter(99, 1));
        m.resize(8, 8);
        due(2, () -> m.scatter(99, 2));
        for (int seed = 0; seed < 20; seed++) {
            m = new WatershedMapper();
            m.resize(8, 8);
            int different = m.scatter(seed, 100);
            long low = 0;
            long high = 0;
            for (int c = 0; c < 64; c++) {
                int height = m.cell(c, 0);
                low |= height < 64 ? 1L << height : 0;
                high |= height < 64 ? 0 : 1L << (height - 64);
            }
            int wanted = Long.bitCount(low) + Long.bitCount(high);
            due(wanted, () -> different);
        }
        m.resize(2, 2);
        due(true, () -> m.scatter(5, 100) <= 4);
    }

    private static void settings() {
        says(4, "Returns the previous height.");
        due(50, () -> m.setHeight(24, 0));
        due(0, () -> m.setHeight(24, 99));
        due(99, () -> m.setHeight(24, 99));
        due(99, () -> m.setHeight(24, 1));
        range(0, 24, INDEX, c -> m.setHeight(c, 1));

        says(6, "Returns the previous rain.");
        due(1, () -> m.setRain(24, 0));
        due(0, () -> m.setRain(24, 9));
        due(9, () -> m.setRain(24, 9));
        range(0, 24, INDEX, c -> m.setRain(c, 1));

        says(7, "Returns the previous soak.");
        due(0, () -> m.setSoak(24, 9));
        due(9, () -> m.setSoak(24, 0));
        due(0, () -> m.setSoak(24, 0));
        range(0, 24, INDEX, c -> m.setSoak(c, 1));

        says(8, "Returns whether it was one before.");
        due(false, () -> m.setOutlet(24, false));
        due(false, () -> m.setOutlet(24, true));
        due(true, () -> m.setOutlet(24, true));
        due(true, () -> m.setOutlet(24, false));
        due(false, () -> m.setOutlet(24, false));
        refused(INDEX, c -> m.setOutlet(c, true), -1, 25, LOW, HIGH);
        refused(INDEX, c -> m.setOutlet(c, false), -1, 25, LOW, HIGH);

        says(8, "Throws IllegalStateException if it is the only outlet and is to be none");
        due(STATE, () -> m.setOutlet(0, false));
        due(true, () -> m.setOutlet(0, true));
        due(false, () -> m.setOutlet(1, false));
        outlets(1);
        due(false, () -> m.setOutlet(0, false));
        due(STATE, () -> m.setOutlet(1, false));

        says(9, "Returns the previous threshold.");
        due(5, () -> m.setThreshold(1));
        due(1, () -> m.setThreshold(99));
        due(99, () -> m.setThreshold(99));
        due(99, () -> m.setThreshold(5));
    }

    private static void raising() {
        says(5, "heights below 0 become 0, those above 99 become 99");
        grid(2, 0, 1, 98, 99);
        due(3, () -> m.raise(0, 3, 1));
        heights(1, 2, 99, 99);
        due(4, () -> m.raise(0, 3, -2));
        heights(0, 0, 97, 97);
        due(4, () -> m.raise(0, 3, 99));
        heights(99, 99, 99, 99);
        due(0, () -> m.raise(0, 3, 99));
        due(4, () -> m.raise(0, 3, -99));
        heights(0, 0, 0, 0);
        due(0, () -> m.raise(0, 3, -99));

        says(5, "Throws IllegalArgumentException if the amount is out of range");
        range(-99, 99, ARGUMENT, amount -> m.raise(0, 24, amount));

        says(5, "Throws IndexOutOfBoundsException if there is no such cell");
        range(0, 24, INDEX, c -> m.raise(c, 0, 1));
        range(0, 24, INDEX, c -> m.raise(24, c, 1));

        says(5, "of which two cells are opposite corners, in any order");
        m.resize(4, 3);
        due(6, () -> m.raise(1, 10, 1));
        due(6, () -> m.raise(10, 1, 1));
        due(6, () -> m.raise(2, 9, 1));
        due(6, () -> m.raise(9, 2, 1));
        heights(50, 54, 54, 50, 50, 54, 54, 50, 50, 54, 54, 50);

        says(5, "possibly the same cell");
        due(1, () -> m.raise(24, 24, 1));
        due(51, () -> m.cell(24, 0));
        due(25, () -> m.raise(24, 0, 1));
        due(5, () -> m.raise(20, 24, 1));
        due(5, () -> m.raise(24, 4, 1));

        says(5, "Returns the number of cells whose height is another one then.");
        due(0, () -> m.raise(0, 24, 0));
        m.setHeight(24, 99);
        due(24, () -> m.raise(0, 24, 49));
        due(0, () -> m.raise(0, 24, 1));
    }

    private static void kindsOfNumbers() {
        says(10, "Throws IllegalArgumentException if what is not from 0 to 3");
        range(0, 3, ARGUMENT, what -> m.cell(24, what));
        range(0, 24, INDEX, c -> m.cell(c, 0));

        says(11, "Throws IllegalArgumentException if what is not from 0 to 10");
        range(0, 10, ARGUMENT, what -> m.count(what));
        answers(what -> m.count(what), 5, 5, 1, 5, 0, 5, 1, 0, 24, 0, 0);
    }

    private static void whatWouldBe() {
        says(40, "Returns the sum of all depths if the height of a cell were another one.");
        row(1, 5, 3);
        due(2, () -> m.depthsIf(2, 3));
        due(1, () -> m.depthsIf(2, 4));
        due(0, () -> m.depthsIf(2, 5));
        due(0, () -> m.depthsIf(2, 99));
        due(5, () -> m.depthsIf(2, 0));
        due(0, () -> m.depthsIf(1, 3));
        due(96, () -> m.depthsIf(1, 99));
        due(2, () -> m.depthsIf(0, 0));
        due(94 + 96, () -> m.depthsIf(0, 99));
        range(0, 99, ARGUMENT, height -> m.depthsIf(5, height));
        range(0, 5, INDEX, c -> m.depthsIf(c, 0));
        due(2, () -> m.account(3));

        says(41, "Returns what would leave the grid if the soak of a cell were another one.");
        m.setSoak(0, 4);
        due(25, () -> m.leavingIf(0, 0));
        due(21, () -> m.leavingIf(0, 4));
        due(16, () -> m.leavingIf(0, 9));
        due(20, () -> m.leavingIf(24, 9));
        range(0, 9, ARGUMENT, soak -> m.leavingIf(24, soak));
        range(0, 24, INDEX, c -> m.leavingIf(c, 0));
        due(21, () -> m.account(1));

        says(42, "the cell that would be an outlet, possibly one that is");
        due(0, () -> m.mouthIf(24, 0));
        due(0, () -> m.mouthIf(0, 0));
        due(24, () -> m.mouthIf(24, 24));
        due(24, () -> m.mouthIf(23, 24));
        due(0, () -> m.mouthIf(0, 24));
        range(0, 24, INDEX, c -> m.mouthIf(c, 1));
        range(0, 24, INDEX, c -> m.mouthIf(1, c));
        due(1, () -> m.count(2));
        due(0, () -> m.route(24, -1));
    }

    private static void maps() {
        says(46, "with a / between one row and the next");
        drawn("oo/oo", 2, 2, 0, 1, 2, 3);
        drawn("o</^^", 2, 2, 0);
        drawn(">vv/>o</^^^", 3, 3, 4);
        drawn("o</^^/^^/^^/^^/^^/^^/^^", 2, 8, 0);
        drawn("o<<<<<<</^^^^^^^^", 8, 2, 0);
        drawn("vvvvvvvv/".repeat(7) + "o<<<<<<<", 8, 8, 56);
    }

    /** The map of a flat grid, in a new object. */
    private static void drawn(String map, int width, int height, int... outlets) {
        m = new WatershedMapper();
        m.resize(width, height);
        outlets(outlets);
        for (int k = 0; k < map.length(); k++) {
            int index = k;
            due(map.charAt(k), () -> m.map(index));
        }
        refused(INDEX, index -> m.map(index), -1, map.length(), LOW, HIGH);
    }

    // ---- what the promises throw, one by one ----

    /** The first and the last cell are taken, those before and behind them are refused, on three grids. */
    private static void cellsOf(int promise, OfNumber call) {
        says(promise, "Throws IndexOutOfBoundsException if there is no such cell");
        range(0, 24, INDEX, call);
        m.resize(2, 2);
        range(0, 3, INDEX, call);
        due(INDEX, () -> call.answer(24));
        m.resize(8, 8);
        range(0, 63, INDEX, call);
    }

    /** The answer, or the class of an exception that the call may throw for a cell that there is. */
    private static Object either(Class<?> allowed, Callable<?> call) throws Exception {
        try {
            return call.call();
        } catch (RuntimeException e) {
            if (e.getClass() == allowed) {
                return allowed;
            }
            throw e;
        }
    }

    private static void missingGridCells() {
        cellsOf(4, c -> m.setHeight(c, 0));
        cellsOf(5, c -> m.raise(c, 3, 0));
        cellsOf(5, c -> m.raise(3, c, 0));
        cellsOf(6, c -> m.setRain(c, 0));
        cellsOf(7, c -> m.setSoak(c, 0));
        cellsOf(8, c -> m.setOutlet(c, true));
        cellsOf(10, c -> m.cell(c, 3));
        cellsOf(12, c -> m.level(c));
        cellsOf(13, c -> m.levelByPools(c));
        cellsOf(15, c -> either(ELEMENT, () -> m.lakeOf(c)));
        cellsOf(19, c -> m.carveWay(c, 0));
        cellsOf(21, c -> either(ELEMENT, () -> m.flow(c)));
        cellsOf(22, c -> m.why(c, 0));
        cellsOf(23, c -> m.route(c, 0));
    }

    private static void missingCellsOfQuestions() {
        cellsOf(24, c -> m.upstream(c));
        cellsOf(25, c -> m.water(c, 0));
        cellsOf(27, c -> m.order(c));
        cellsOf(29, c -> either(ELEMENT, () -> m.reachOf(c)));
        cellsOf(30, c -> either(STATE, () -> m.basin(c, 0)));
        cellsOf(33, c -> either(ELEMENT, () -> m.depressionAt(c, 0)));
        cellsOf(36, c -> m.section(c, 3, 0));
        cellsOf(36, c -> m.section(3, c, 0));
        cellsOf(37, c -> m.sectionCell(c, 3, 0));
        cellsOf(37, c -> m.sectionCell(3, c, 0));
        cellsOf(38, c -> m.sees(c, 3, 0));
        cellsOf(38, c -> m.sees(3, c, 0));
        cellsOf(39, c -> m.viewshed(c, 0));
        cellsOf(40, c -> m.depthsIf(c, 0));
        cellsOf(41, c -> m.leavingIf(c, 0));
        cellsOf(42, c -> m.mouthIf(c, 3));
        cellsOf(42, c -> m.mouthIf(3, c));
    }

    private static void missingLakes() {
        OfNumber[] calls = {lake -> m.lake(lake, 0), lake -> m.remedy(lake), lake -> m.fillLake(lake),
            lake -> m.carveLake(lake)};
        int[] promises = {14, 16, 17, 18};
        for (int k = 0; k < calls.length; k++) {
            OfNumber call = calls[k];
            says(promises[k], "Throws IndexOutOfBoundsException if there is no such lake");
            refused(INDEX, call, 0, -1, 1, LOW, HIGH);
            for (int lake = 0; lake < 2; lake++) {
                m = new WatershedMapper();
                m.setHeight(24, 49);
                m.setHeight(20, 49);
                refused(INDEX, call, -1, 2, 24, LOW, HIGH);
                due(2, () -> m.count(4));
                taken(call, lake);
            }
        }
    }

    private static void numbersOutOfRange() {
        says(4, "Throws IllegalArgumentException if the height is out of range");
        range(0, 99, ARGUMENT, height -> m.setHeight(0, height));

        says(6, "Throws IllegalArgumentException if the rain is out of range");
        range(0, 9, ARGUMENT, rain -> m.setRain(0, rain));

        says(7, "Throws IllegalArgumentException if the soak is out of range");
        range(0, 9, ARGUMENT, soak -> m.setSoak(0, soak));

        says(9, "Throws IllegalArgumentException if it is out of range");
        range(1, 99, ARGUMENT, threshold -> m.setThreshold(threshold));

        says(33, "Throws IllegalArgumentException if the number is out of range");
        m.setHeight(0, 99);
        m.setHeight(24, 0);
        taken(number -> m.depressionAt(24, number), 0, 98);
        due(ELEMENT, () -> m.depressionAt(24, 99));
        refused(ARGUMENT, number -> m.depressionAt(24, number), -1, 100, LOW, HIGH);

        says(34, "Throws IllegalArgumentException if the number is out of range");
        range(0, 99, ARGUMENT, number -> m.pools(number));

        says(38, "Throws IllegalArgumentException if the eye height is out of range");
        range(0, 99, ARGUMENT, eye -> m.sees(0, 24, eye));

        says(39, "Throws IllegalArgumentException if the eye height is out of range");
        range(0, 99, ARGUMENT, eye -> m.viewshed(0, eye));

        says(40, "Throws IllegalArgumentException if the height is out of range");
        range(0, 99, ARGUMENT, height -> m.depthsIf(0, height));

        says(41, "Throws IllegalArgumentException if the soak is out of range");
        range(0, 9, ARGUMENT, soak -> m.leavingIf(0, soak));

        says(46, "Throws IndexOutOfBoundsException if there is no such index");
        range(0, 28, INDEX, index -> m.map(index));
        m.resize(2, 2);
        range(0, 4, INDEX, index -> m.map(index));
        m.resize(8, 8);
        range(0, 70, INDEX, index -> m.map(index));
    }

    private static void lastCalls() {
        says(0, "An object is used for at most 512 calls after it has been made");
        for (int call = 1; call <= 511; call++) {
            m.setHeight(24, call % 100);
        }
        due(7, () -> m.undo());

        says(0, "An object is used for at most 512 calls (texts)");
        for (int call = 1; call <= 510; call += 5) {
            due(1, () -> executed("h3=7"));
        }
        m.undo();
        due(7, () -> m.cell(3, 0));

        says(0, "An object is used for at most 512 calls (saving and restoring)");
        for (int call = 1; call <= 510; call += 2) {
            m.save();
            m.restore();
        }
        due(8, () -> m.count(10));
        due(25, () -> m.restore());
    }
}
