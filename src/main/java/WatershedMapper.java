import java.util.Arrays;
import java.util.NoSuchElementException;

/** A mapper of watersheds on a grid of heights. See README.md for how to use it. */
public final class WatershedMapper {

    private static final int NONE = -1;
    private static final int MOST_CELLS = 64;
    private static final int DIRECTIONS = 4;
    private static final int HIGHEST = 99;
    private static final int LEAST_SIDE = 2;
    private static final int MOST_SIDE = 8;

    private final Grid grid;
    /** The grid as it would be: for questions and for texts, so that the grid itself stays. */
    private final Grid trial;
    private final Grid saved;
    private boolean isSaved;
    private final History history;
    private final Text text;
    private int keptError;
    private final Filling filling;
    private final Flows flows;
    private final Waters waters;
    private final Streams streams;
    private final Depressions depressions;
    private final Carving carving;
    private final Line line;

    public WatershedMapper() {
        grid = new Grid();
        trial = new Grid();
        saved = new Grid();
        isSaved = false;
        history = new History();
        text = new Text();
        keptError = NONE;
        filling = new Filling();
        flows = new Flows();
        waters = new Waters();
        streams = new Streams();
        depressions = new Depressions();
        carving = new Carving();
        line = new Line();
    }

    // ---- the grid ----

    public int resize(int width, int height) throws IllegalArgumentException {
        requireRange(width, LEAST_SIDE, MOST_SIDE);
        requireRange(height, LEAST_SIDE, MOST_SIDE);
        history.remember(grid);
        grid.startAfresh(width, height);
        return grid.size();
    }

    public int scatter(int seed, int range) throws IllegalArgumentException {
        if (range < 1 || range > HIGHEST + 1) {
            throw new IllegalArgumentException("range out of range");
        }
        history.remember(grid);
        int z = seed;
        int size = grid.size();
        for (int c = 0; c < size; c++) {
            z = z * 1103515245 + 12345;
            Rows.put(grid.heights, c, (z >>> 16) % range);
        }
        return grid.differentHeights();
    }

    public int setHeight(int cell, int height) throws IndexOutOfBoundsException, IllegalArgumentException {
        requireCell(cell);
        requireRange(height, 0, HIGHEST);
        history.remember(grid);
        int previous = Rows.at(grid.heights, cell);
        Rows.put(grid.heights, cell, height);
        return previous;
    }

    public int raise(int cell, int other, int amount) throws IndexOutOfBoundsException, IllegalArgumentException {
        requireCell(cell);
        requireCell(other);
        requireRange(amount, -HIGHEST, HIGHEST);
        history.remember(grid);
        return grid.raiseRectangle(cell, other, amount);
    }

    public int setRain(int cell, int rain) throws IndexOutOfBoundsException, IllegalArgumentException {
        requireCell(cell);
        requireRange(rain, 0, 9);
        history.remember(grid);
        int previous = Rows.at(grid.rains, cell);
        Rows.put(grid.rains, cell, rain);
        return previous;
    }

    public int setSoak(int cell, int soak) throws IndexOutOfBoundsException, IllegalArgumentException {
        requireCell(cell);
        requireRange(soak, 0, 9);
        history.remember(grid);
        int previous = Rows.at(grid.soaks, cell);
        Rows.put(grid.soaks, cell, soak);
        return previous;
    }

    public boolean setOutlet(int cell, boolean isOutlet) throws IndexOutOfBoundsException, IllegalStateException {
        requireCell(cell);
        if (!isOutlet && grid.isOnlyOutlet(cell)) {
            throw new IllegalStateException("the only outlet");
        }
        history.remember(grid);
        boolean previous = grid.isOutlet(cell);
        grid.markOutlet(cell, isOutlet);
        return previous;
    }

    public int setThreshold(int threshold) throws IllegalArgumentException {
        requireRange(threshold, 1, 99);
        history.remember(grid);
        int previous = grid.threshold;
        grid.threshold = threshold;
        return previous;
    }

    public int cell(int cell, int what) throws IndexOutOfBoundsException, IllegalArgumentException {
        requireCell(cell);
        requireRange(what, 0, 3);
        switch (what) {
            case 0:
                return Rows.at(grid.heights, cell);
            case 1:
                return Rows.at(grid.rains, cell);
            case 2:
                return Rows.at(grid.soaks, cell);
            default:
                return grid.isOutlet(cell) ? 1 : 0;
        }
    }

    public int count(int what) throws IllegalArgumentException {
        requireRange(what, 0, 10);
        switch (what) {
            case 0:
                return grid.width;
            case 1:
                return grid.rows;
            case 2:
                return Long.bitCount(grid.outlets);
            case 3:
                return grid.threshold;
            case 4:
                filling.fill(grid);
                return filling.lakeNumber;
            case 5:
                surveyStreams();
                return Long.bitCount(streams.cells);
            case 6:
                surveyStreams();
                return streams.reachNumber;
            case 7:
                depressions.find(grid);
                return depressions.number;
            case 8:
                surveyFlows(grid);
                return Long.bitCount(flows.flat);
            case 9:
                return text.length;
            default:
                return history.size;
        }
    }

    // ---- filling and flow ----

    public int level(int cell) throws IndexOutOfBoundsException {
        requireCell(cell);
        filling.fill(grid);
        return Rows.at(filling.levels, cell);
    }

    public int levelByPools(int cell) throws IndexOutOfBoundsException {
        requireCell(cell);
        depressions.find(grid);
        int root = depressions.rootAt(cell);
        return root == NONE ? Rows.at(grid.heights, cell) : depressions.rim(root);
    }

    public int lake(int lake, int what) throws IndexOutOfBoundsException, IllegalArgumentException {
        requireLake(lake);
        requireRange(what, 0, 6);
        long cells = Rows.at(filling.lakes, lake);
        int bottom = grid.lowestPlace(cells);
        switch (what) {
            case 0:
                return Rows.lowest(cells);
            case 1:
                return Long.bitCount(cells);
            case 2:
                return Rows.at(filling.levels, bottom);
            case 3:
                return Rows.sum(filling.depths, cells);
            case 4:
                return bottom;
            case 5:
                carving.plan(grid, bottom);
                return carving.cost;
            default:
                flows.trace(grid, filling);
                return flows.firstOutside(bottom, cells);
        }
    }

    public int lakeOf(int cell) throws IndexOutOfBoundsException, NoSuchElementException {
        requireCell(cell);
        filling.fill(grid);
        int lake = Rows.at(filling.lakeOfCells, cell);
        if (lake == NONE) {
            throw new NoSuchElementException("the depth is 0");
        }
        return lake;
    }

    public int remedy(int lake) throws IndexOutOfBoundsException {
        requireLake(lake);
        long cells = Rows.at(filling.lakes, lake);
        carving.plan(grid, grid.lowestPlace(cells));
        return Rows.sum(filling.depths, cells) <= carving.cost ? 1 : 2;
    }

    public int fillLake(int lake) throws IndexOutOfBoundsException {
        requireLake(lake);
        history.remember(grid);
        long cells = Rows.at(filling.lakes, lake);
        int size = grid.size();
        for (int c = 0; c < size; c++) {
            if (Rows.has(cells, c)) {
                Rows.put(grid.heights, c, Rows.at(filling.levels, c));
            }
        }
        return Rows.sum(filling.depths, cells);
    }

    public int carveLake(int lake) throws IndexOutOfBoundsException {
        requireLake(lake);
        history.remember(grid);
        carving.plan(grid, grid.lowestPlace(Rows.at(filling.lakes, lake)));
        return carving.carve(grid);
    }

    public int carveWay(int cell, int index) throws IndexOutOfBoundsException, NoSuchElementException {
        requireCell(cell);
        carving.plan(grid, cell);
        if (index < 0 || index >= carving.length) {
            throw new NoSuchElementException("no such index");
        }
        return Rows.at(carving.way, index);
    }

    public double meanDepth() throws ArithmeticException {
        filling.fill(grid);
        int number = Long.bitCount(filling.wet);
        if (number == 0) {
            throw new ArithmeticException("no cell has a depth greater than 0");
        }
        return (double) Rows.sum(filling.depths, filling.wet) / (double) number;
    }

    public int flow(int cell) throws IndexOutOfBoundsException, NoSuchElementException {
        requireCell(cell);
        surveyFlows(grid);
        int direction = Rows.at(flows.directions, cell);
        if (direction == NONE) {
            throw new NoSuchElementException("an outlet flows to no cell");
        }
        return direction;
    }

    public int why(int cell, int what) throws IndexOutOfBoundsException, IllegalArgumentException {
        requireCell(cell);
        requireRange(what, 0, 2);
        surveyFlows(grid);
        switch (what) {
            case 0:
                return Rows.has(flows.flat, cell) ? 2 : grid.isOutlet(cell) ? 0 : 1;
            case 1:
                return Rows.at(flows.choices, cell);
            default:
                return Rows.at(flows.ranks, cell);
        }
    }

    public int route(int cell, int index) throws IndexOutOfBoundsException, NoSuchElementException {
        requireCell(cell);
        surveyFlows(grid);
        if (index < -1 || index > Rows.at(flows.steps, cell)) {
            throw new NoSuchElementException("no such index");
        }
        return index == -1 ? Rows.at(flows.mouths, cell) : flows.downstream(cell, index);
    }

    public long upstream(int cell) throws IndexOutOfBoundsException {
        requireCell(cell);
        surveyFlows(grid);
        return flows.above(cell);
    }

    // ---- water and streams ----

    public int water(int cell, int what) throws IndexOutOfBoundsException, IllegalArgumentException {
        requireCell(cell);
        requireRange(what, 0, 3);
        surveyWaters(grid);
        switch (what) {
            case 0:
                return Rows.at(waters.inflows, cell);
            case 1:
                return Rows.at(waters.amounts, cell);
            case 2:
                return Rows.at(waters.soaked, cell);
            default:
                return Rows.at(waters.outflows, cell);
        }
    }

    public int account(int what) throws IllegalArgumentException {
        requireRange(what, 0, 5);
        surveyWaters(grid);
        long all = grid.all();
        switch (what) {
            case 0:
                return Rows.sum(grid.rains, all);
            case 1:
                return Rows.sum(waters.outflows, grid.outlets);
            case 2:
                return Rows.sum(waters.soaked, all);
            case 3:
                return Rows.sum(filling.depths, all);
            case 4:
                return Rows.sum(grid.heights, all);
            default:
                return Rows.greatest(waters.amounts, all);
        }
    }

    public int order(int cell) throws IndexOutOfBoundsException {
        requireCell(cell);
        surveyStreams();
        return Rows.at(streams.orders, cell);
    }

    public int reach(int reach, int what) throws IndexOutOfBoundsException, IllegalArgumentException {
        surveyStreams();
        if (reach < 0 || reach >= streams.reachNumber) {
            throw new IndexOutOfBoundsException("no such reach");
        }
        requireRange(what, 0, 4);
        int first = Rows.at(streams.firsts, reach);
        switch (what) {
            case 0:
                return first;
            case 1:
                return Rows.at(streams.lasts, reach);
            case 2:
                return Rows.at(streams.lengths, reach);
            case 3:
                return Rows.at(streams.orders, first);
            default:
                return streams.reachBehind(flows, reach);
        }
    }

    public int reachOf(int cell) throws IndexOutOfBoundsException, NoSuchElementException {
        requireCell(cell);
        surveyStreams();
        if (!Rows.has(streams.cells, cell)) {
            throw new NoSuchElementException("no stream cell");
        }
        return Rows.at(streams.reachOfCells, cell);
    }

    public int basin(int outlet, int what)
            throws IndexOutOfBoundsException, IllegalStateException, IllegalArgumentException {
        requireCell(outlet);
        if (!grid.isOutlet(outlet)) {
            throw new IllegalStateException("no outlet");
        }
        requireRange(what, 0, 3);
        surveyWaters(grid);
        long cells = flows.above(outlet);
        switch (what) {
            case 0:
                return Long.bitCount(cells);
            case 1:
                return Rows.sum(grid.rains, cells);
            case 2:
                return Rows.at(waters.outflows, outlet);
            default:
                return Rows.greatest(flows.steps, cells);
        }
    }

    public int divides() {
        surveyFlows(grid);
        int pairs = 0;
        int size = grid.size();
        for (int c = 0; c < size; c++) {
            // Only to the right and down, so that each pair counts once.
            for (int d = 1; d <= 2; d++) {
                int neighbor = grid.neighbor(c, d);
                if (neighbor != NONE && Rows.at(flows.mouths, c) != Rows.at(flows.mouths, neighbor)) {
                    pairs++;
                }
            }
        }
        return pairs;
    }

    // ---- pools ----

    public int depression(int depression, int what) throws IndexOutOfBoundsException, IllegalArgumentException {
        depressions.find(grid);
        if (depression < 0 || depression >= depressions.number) {
            throw new IndexOutOfBoundsException("no such depression");
        }
        requireRange(what, 0, 7);
        switch (what) {
            case 0:
                return Rows.at(depressions.firstNumbers, depression);
            case 1:
                return Rows.at(depressions.lastNumbers, depression);
            case 2:
                return Long.bitCount(Rows.at(depressions.lastPools, depression));
            case 3:
                return depressions.capacity(grid, depression);
            case 4:
                return Rows.lowest(Rows.at(depressions.firstPools, depression));
            case 5:
                return Rows.at(depressions.parents, depression);
            case 6:
                return depressions.children(depression);
            default:
                return depressions.depthInTree(depression);
        }
    }

    public int depressionAt(int cell, int number)
            throws IndexOutOfBoundsException, IllegalArgumentException, NoSuchElementException {
        requireCell(cell);
        requireRange(number, 0, HIGHEST);
        depressions.find(grid);
        int found = depressions.at(grid, cell, number);
        if (found == NONE) {
            throw new NoSuchElementException("no pool of this number contains the cell");
        }
        return found;
    }

    public long pools(int number) throws IllegalArgumentException {
        requireRange(number, 0, HIGHEST);
        return grid.poolCells(number);
    }

    // ---- contours and sections ----

    public int contour(int number, int what) throws IllegalArgumentException {
        requireRange(number, 1, HIGHEST);
        requireRange(what, 0, 3);
        long low = grid.atMost(number - 1);
        long high = grid.all() & ~low;
        switch (what) {
            case 0:
                return Long.bitCount(high);
            case 1:
                return grid.groups(high, 0L);
            case 2:
                return grid.borders(high);
            default:
                return grid.groups(low, grid.edge());
        }
    }

    public int section(int from, int to, int what) throws IndexOutOfBoundsException, IllegalArgumentException {
        requireCell(from);
        requireCell(to);
        requireRange(what, 0, 5);
        line.draw(grid, from, to);
        switch (what) {
            case 0:
                return line.length;
            case 1:
                return line.rises(grid, 1);
            case 2:
                return line.rises(grid, -1);
            case 3:
                return Rows.greatest(grid.heights, line.cellSet());
            case 4:
                return Rows.at(grid.heights, grid.lowestPlace(line.cellSet()));
            default:
                surveyStreams();
                return Long.bitCount(line.cellSet() & streams.cells);
        }
    }

    public int sectionCell(int from, int to, int index) throws IndexOutOfBoundsException, NoSuchElementException {
        requireCell(from);
        requireCell(to);
        line.draw(grid, from, to);
        if (index < 0 || index >= line.length) {
            throw new NoSuchElementException("no such index");
        }
        return Rows.at(line.cells, index);
    }

    public boolean sees(int from, int to, int eye) throws IndexOutOfBoundsException, IllegalArgumentException {
        requireCell(from);
        requireCell(to);
        requireRange(eye, 0, HIGHEST);
        line.draw(grid, from, to);
        return line.isOpen(grid, eye);
    }

    public long viewshed(int from, int eye) throws IndexOutOfBoundsException, IllegalArgumentException {
        requireCell(from);
        requireRange(eye, 0, HIGHEST);
        long seen = 0L;
        int size = grid.size();
        for (int c = 0; c < size; c++) {
            line.draw(grid, from, c);
            if (line.isOpen(grid, eye)) {
                seen |= 1L << c;
            }
        }
        return seen;
    }

    // ---- what would be ----

    public int depthsIf(int cell, int height) throws IndexOutOfBoundsException, IllegalArgumentException {
        requireCell(cell);
        requireRange(height, 0, HIGHEST);
        trial.copyFrom(grid);
        Rows.put(trial.heights, cell, height);
        filling.fill(trial);
        return Rows.sum(filling.depths, trial.all());
    }

    public int leavingIf(int cell, int soak) throws IndexOutOfBoundsException, IllegalArgumentException {
        requireCell(cell);
        requireRange(soak, 0, 9);
        trial.copyFrom(grid);
        Rows.put(trial.soaks, cell, soak);
        surveyWaters(trial);
        return Rows.sum(waters.outflows, trial.outlets);
    }

    public int mouthIf(int cell, int outlet) throws IndexOutOfBoundsException {
        requireCell(cell);
        requireCell(outlet);
        trial.copyFrom(grid);
        trial.markOutlet(outlet, true);
        surveyFlows(trial);
        return Rows.at(flows.mouths, cell);
    }

    // ---- texts, undo and saving ----

    public int append(char character) throws IllegalArgumentException, IllegalStateException {
        requireRange(character, 33, 126);
        if (text.length >= Text.MOST_SIGNS) {
            throw new IllegalStateException("the buffer is full");
        }
        text.add(character);
        return text.length;
    }

    public int execute() throws IllegalArgumentException, IllegalStateException {
        int commands = text.countCommands(grid.size());
        if (commands == NONE) {
            keptError = text.error;
            text.length = 0;
            throw new IllegalArgumentException("an error in the text");
        }
        trial.copyFrom(grid);
        boolean isPossible = text.carryOut(trial);
        text.length = 0;
        if (!isPossible) {
            throw new IllegalStateException("the only outlet");
        }
        history.remember(grid);
        grid.copyFrom(trial);
        return commands;
    }

    public int errorPosition() throws NoSuchElementException {
        if (keptError == NONE) {
            throw new NoSuchElementException("no error position was kept");
        }
        return keptError;
    }

    public char map(int index) throws IndexOutOfBoundsException {
        int span = grid.width + 1;
        // The last row has no / behind it.
        if (index < 0 || index >= span * grid.rows - 1 || span <= 0) {
            throw new IndexOutOfBoundsException("no such index");
        }
        int x = index % span;
        if (x == grid.width) {
            return '/';
        }
        surveyFlows(grid);
        switch (Rows.at(flows.directions, index / span * grid.width + x)) {
            case 0:
                return '^';
            case 1:
                return '>';
            case 2:
                return 'v';
            case 3:
                return '<';
            default:
                return 'o';
        }
    }

    public int undo() throws IllegalStateException {
        if (history.size == 0) {
            throw new IllegalStateException("nothing can be taken back");
        }
        history.takeBack(grid);
        return history.size;
    }

    public int save() {
        saved.copyFrom(grid);
        isSaved = true;
        return grid.size();
    }

    public int restore() throws IllegalStateException {
        if (!isSaved) {
            throw new IllegalStateException("nothing was saved");
        }
        history.remember(grid);
        grid.copyFrom(saved);
        return grid.size();
    }

    // ---- shared by several methods ----

    private void requireCell(int cell) {
        if (cell < 0 || cell >= grid.size()) {
            throw new IndexOutOfBoundsException("no such cell");
        }
    }

    /** Leaves the filling of the grid found out. */
    private void requireLake(int lake) {
        filling.fill(grid);
        if (lake < 0 || lake >= filling.lakeNumber) {
            throw new IndexOutOfBoundsException("no such lake");
        }
    }

    private static void requireRange(int number, int least, int most) {
        if (number < least || number > most) {
            throw new IllegalArgumentException("a number out of range");
        }
    }

    private void surveyFlows(Grid surveyed) {
        filling.fill(surveyed);
        flows.trace(surveyed, filling);
    }

    private void surveyWaters(Grid surveyed) {
        filling.fill(surveyed);
        flows.trace(surveyed, filling);
        waters.run(surveyed, flows);
    }

    // Each survey names all its steps itself, for calls may go only eight deep.
    private void surveyStreams() {
        filling.fill(grid);
        flows.trace(grid, filling);
        waters.run(grid, flows);
        streams.find(grid, flows, waters);
    }

    /** Rows of numbers, read and written only where they have an index; sets of cells have bit c for cell c. */
    static final class Rows {

        static int at(int[] row, int index) {
            return index >= 0 && index < row.length ? row[index] : 0;
        }

        static long at(long[] row, int index) {
            return index >= 0 && index < row.length ? row[index] : 0L;
        }

        static void put(int[] row, int index, int value) {
            if (index >= 0 && index < row.length) {
                row[index] = value;
            }
        }

        static void put(long[] row, int index, long value) {
            if (index >= 0 && index < row.length) {
                row[index] = value;
            }
        }

        static void add(int[] row, int index, int amount) {
            if (index >= 0 && index < row.length) {
                row[index] += amount;
            }
        }

        static void copy(int[] from, int[] to) {
            for (int i = 0; i < from.length && i < to.length; i++) {
                to[i] = from[i];
            }
        }

        static int sum(int[] row, long cells) {
            int sum = 0;
            for (int i = 0; i < row.length; i++) {
                if (Rows.has(cells, i)) {
                    sum += row[i];
                }
            }
            return sum;
        }

        /** For rows of numbers that are not negative. */
        static int greatest(int[] row, long cells) {
            int greatest = 0;
            for (int i = 0; i < row.length; i++) {
                if (Rows.has(cells, i) && row[i] > greatest) {
                    greatest = row[i];
                }
            }
            return greatest;
        }

        static boolean has(long set, int cell) {
            return cell >= 0 && cell < MOST_CELLS && ((set >>> cell) & 1L) != 0L;
        }

        /** The number of the bits below the lowest one of a set that is not empty. */
        static int lowest(long set) {
            return Long.bitCount(~set & (set - 1L));
        }
    }

    /** The grid with its cells; the threshold stands here because it is saved and taken back with them. */
    static final class Grid {
        int width;
        int rows;
        int threshold;
        long outlets;
        final int[] heights;
        final int[] rains;
        final int[] soaks;

        Grid() {
            heights = new int[MOST_CELLS];
            rains = new int[MOST_CELLS];
            soaks = new int[MOST_CELLS];
            threshold = 5;
            startAfresh(5, 5);
        }

        void startAfresh(int newWidth, int newRows) {
            width = newWidth;
            rows = newRows;
            outlets = 1L;
            Arrays.fill(heights, 50);
            Arrays.fill(rains, 1);
            Arrays.fill(soaks, 0);
        }

        void copyFrom(Grid other) {
            width = other.width;
            rows = other.rows;
            threshold = other.threshold;
            outlets = other.outlets;
            Rows.copy(other.heights, heights);
            Rows.copy(other.rains, rains);
            Rows.copy(other.soaks, soaks);
        }

        int size() {
            return width * rows;
        }

        long all() {
            return -1L >>> (MOST_CELLS - size());
        }

        boolean isOutlet(int cell) {
            return Rows.has(outlets, cell);
        }

        boolean isOnlyOutlet(int cell) {
            return isOutlet(cell) && Long.bitCount(outlets) == 1;
        }

        void markOutlet(int cell, boolean isOutlet) {
            long bit = 1L << cell;
            outlets = isOutlet ? outlets | bit : outlets & ~bit;
        }

        int columnOf(int cell) {
            return width > 0 ? cell % width : 0;
        }

        int rowOf(int cell) {
            return width > 0 ? cell / width : 0;
        }

        int neighbor(int cell, int direction) {
            switch (direction) {
                case 0:
                    return cell >= width ? cell - width : NONE;
                case 1:
                    return columnOf(cell) < width - 1 ? cell + 1 : NONE;
                case 2:
                    return cell + width < size() ? cell + width : NONE;
                default:
                    return columnOf(cell) > 0 ? cell - 1 : NONE;
            }
        }

        long column(int x) {
            long cells = 0L;
            for (int y = 0; y < rows; y++) {
                cells |= 1L << (y * width + x);
            }
            return cells;
        }

        /** The cells at the edge of the grid. */
        long edge() {
            long rowBelow = all() << width;
            long rowAbove = all() >>> width;
            return all() & (column(0) | column(width - 1) | ~rowBelow | ~rowAbove);
        }

        /** The cells to which ways within a set lead from those cells of it that are given. */
        long reachable(long start, long within) {
            long notLeft = ~column(0);
            long notRight = ~column(width - 1);
            long found = start & within;
            boolean isGrowing = true;
            for (int step = 0; step < MOST_CELLS && isGrowing; step++) {
                long sideways = (found & notLeft) >>> 1 | (found & notRight) << 1;
                long next = (found | sideways | found >>> width | found << width) & within;
                isGrowing = next != found;
                found = next;
            }
            return found;
        }

        long atMost(int height) {
            long cells = 0L;
            int size = size();
            for (int c = 0; c < size; c++) {
                if (Rows.at(heights, c) <= height) {
                    cells |= 1L << c;
                }
            }
            return cells;
        }

        boolean hasHeight(int height) {
            int size = size();
            for (int c = 0; c < size; c++) {
                if (Rows.at(heights, c) == height) {
                    return true;
                }
            }
            return false;
        }

        int differentHeights() {
            int different = 0;
            for (int h = 0; h <= HIGHEST; h++) {
                if (hasHeight(h)) {
                    different++;
                }
            }
            return different;
        }

        /** The cell with the least height in a set that is not empty, of several the lowest one. */
        int lowestPlace(long cells) {
            int place = Rows.lowest(cells);
            int size = size();
            for (int c = 0; c < size; c++) {
                if (Rows.has(cells, c) && Rows.at(heights, c) < Rows.at(heights, place)) {
                    place = c;
                }
            }
            return place;
        }

        int raiseRectangle(int cell, int other, int amount) {
            int left = Math.min(columnOf(cell), columnOf(other));
            int right = Math.max(columnOf(cell), columnOf(other));
            int top = Math.min(rowOf(cell), rowOf(other));
            int bottom = Math.max(rowOf(cell), rowOf(other));
            int changed = 0;
            for (int y = top; y <= bottom; y++) {
                for (int x = left; x <= right; x++) {
                    int c = y * width + x;
                    int before = Rows.at(heights, c);
                    int after = Math.max(0, Math.min(HIGHEST, before + amount));
                    Rows.put(heights, c, after);
                    if (after != before) {
                        changed++;
                    }
                }
            }
            return changed;
        }

        /** The cells of all lands of a number that contain no outlet. */
        long poolCells(int number) {
            long low = atMost(number);
            return low & ~reachable(outlets, low);
        }

        /** The number of the parts into which a set falls, without those that meet the cells to avoid. */
        int groups(long set, long avoid) {
            int groups = 0;
            long left = set;
            for (int c = 0; c < MOST_CELLS; c++) {
                if (Rows.has(left, c)) {
                    long group = reachable(1L << c, left);
                    left &= ~group;
                    if ((group & avoid) == 0L) {
                        groups++;
                    }
                }
            }
            return groups;
        }

        /** The number of pairs of neighbors of which exactly one is in a set. */
        int borders(long set) {
            int pairs = 0;
            int size = size();
            for (int c = 0; c < size; c++) {
                for (int d = 1; d <= 2; d++) {
                    int neighbor = neighbor(c, d);
                    if (neighbor != NONE && Rows.has(set, c) != Rows.has(set, neighbor)) {
                        pairs++;
                    }
                }
            }
            return pairs;
        }
    }

    /** The grids before the latest changes; the slots are made once and used in turn. */
    static final class History {
        static final int LIMIT = 8;

        final Grid[] slots;
        int newest;
        int size;

        History() {
            slots = new Grid[LIMIT];
            for (int i = 0; i < slots.length; i++) {
                slots[i] = new Grid();
            }
            newest = 0;
            size = 0;
        }

        void remember(Grid grid) {
            newest = newest + 1 < LIMIT ? newest + 1 : 0;
            Grid slot = newestSlot();
            if (slot != null) {
                slot.copyFrom(grid);
            }
            size = Math.min(size + 1, LIMIT);
        }

        /** The caller has looked whether there is one to take back. */
        void takeBack(Grid grid) {
            Grid slot = newestSlot();
            if (slot != null) {
                grid.copyFrom(slot);
            }
            newest = newest > 0 ? newest - 1 : LIMIT - 1;
            size = Math.max(size - 1, 0);
        }

        private Grid newestSlot() {
            return newest >= 0 && newest < slots.length ? slots[newest] : null;
        }
    }

    /** Levels, depths and lakes. */
    static final class Filling {
        final int[] levels;
        final int[] depths;
        final int[] lakeOfCells;
        final long[] lakes;
        int lakeNumber;
        long wet;

        Filling() {
            levels = new int[MOST_CELLS];
            depths = new int[MOST_CELLS];
            lakeOfCells = new int[MOST_CELLS];
            lakes = new long[MOST_CELLS];
        }

        void fill(Grid grid) {
            findLevels(grid);
            findDepths(grid);
            findLakes(grid);
        }

        /** A cell has the level at which a flood that rises from the outlets meets it first. */
        private void findLevels(Grid grid) {
            int size = grid.size();
            long flooded = 0L;
            for (int m = 0; m <= HIGHEST; m++) {
                long before = flooded;
                flooded = grid.reachable(flooded | grid.outlets, grid.atMost(m));
                for (int c = 0; c < size && flooded != before; c++) {
                    if (Rows.has(flooded & ~before, c)) {
                        Rows.put(levels, c, m);
                    }
                }
            }
        }

        private void findDepths(Grid grid) {
            wet = 0L;
            int size = grid.size();
            for (int c = 0; c < size; c++) {
                int depth = Rows.at(levels, c) - Rows.at(grid.heights, c);
                Rows.put(depths, c, depth);
                if (depth > 0) {
                    wet |= 1L << c;
                }
            }
        }

        private void findLakes(Grid grid) {
            Arrays.fill(lakeOfCells, NONE);
            lakeNumber = 0;
            int size = grid.size();
            for (int c = 0; c < size; c++) {
                if (Rows.has(wet, c) && Rows.at(lakeOfCells, c) == NONE) {
                    long lake = grid.reachable(1L << c, wetAtLevel(Rows.at(levels, c)));
                    Rows.put(lakes, lakeNumber, lake);
                    numberLake(lake);
                    lakeNumber++;
                }
            }
        }

        private long wetAtLevel(int level) {
            long cells = 0L;
            for (int c = 0; c < MOST_CELLS; c++) {
                if (Rows.has(wet, c) && Rows.at(levels, c) == level) {
                    cells |= 1L << c;
                }
            }
            return cells;
        }

        private void numberLake(long lake) {
            for (int c = 0; c < MOST_CELLS; c++) {
                if (Rows.has(lake, c)) {
                    Rows.put(lakeOfCells, c, lakeNumber);
                }
            }
        }
    }

    /** Ranks, directions and routes. */
    static final class Flows {
        int size;
        long flat;
        final int[] ranks;
        final int[] directions;
        final int[] choices;
        final int[] targets;
        /** All cells, each before the one to which it flows. */
        final int[] sequence;
        final int[] pending;
        final int[] mouths;
        final int[] steps;

        Flows() {
            ranks = new int[MOST_CELLS];
            directions = new int[MOST_CELLS];
            choices = new int[MOST_CELLS];
            targets = new int[MOST_CELLS];
            sequence = new int[MOST_CELLS];
            pending = new int[MOST_CELLS];
            mouths = new int[MOST_CELLS];
            steps = new int[MOST_CELLS];
        }

        void trace(Grid grid, Filling filling) {
            size = grid.size();
            findFlat(grid, filling);
            findRanks(grid, filling);
            for (int c = 0; c < size; c++) {
                choose(grid, filling, c);
            }
            findSequence();
            findMouths();
        }

        private void findFlat(Grid grid, Filling filling) {
            flat = 0L;
            for (int c = 0; c < size; c++) {
                boolean isSloping = leastLevelAround(grid, filling, c) < Rows.at(filling.levels, c);
                if (!isSloping && !grid.isOutlet(c)) {
                    flat |= 1L << c;
                }
            }
        }

        private static int leastLevelAround(Grid grid, Filling filling, int cell) {
            int least = HIGHEST;
            for (int d = 0; d < DIRECTIONS; d++) {
                int neighbor = grid.neighbor(cell, d);
                if (neighbor != NONE) {
                    least = Math.min(least, Rows.at(filling.levels, neighbor));
                }
            }
            return least;
        }

        private void findRanks(Grid grid, Filling filling) {
            for (int c = 0; c < size; c++) {
                Rows.put(ranks, c, Rows.has(flat, c) ? NONE : 0);
            }
            boolean isFound = true;
            for (int rank = 1; rank < MOST_CELLS && isFound; rank++) {
                isFound = false;
                for (int c = 0; c < size; c++) {
                    if (Rows.at(ranks, c) == NONE && isNextTo(grid, filling, c, rank - 1)) {
                        Rows.put(ranks, c, rank);
                        isFound = true;
                    }
                }
            }
        }

        private boolean isNextTo(Grid grid, Filling filling, int cell, int rank) {
            for (int d = 0; d < DIRECTIONS; d++) {
                if (isOnLevel(filling, cell, grid.neighbor(cell, d), rank)) {
                    return true;
                }
            }
            return false;
        }

        private boolean isOnLevel(Filling filling, int cell, int neighbor, int rank) {
            return neighbor != NONE && Rows.at(ranks, neighbor) == rank
                    && Rows.at(filling.levels, neighbor) == Rows.at(filling.levels, cell);
        }

        private void choose(Grid grid, Filling filling, int cell) {
            Rows.put(directions, cell, NONE);
            Rows.put(choices, cell, 0);
            Rows.put(targets, cell, NONE);
            if (grid.isOutlet(cell)) {
                return;
            }
            int least = leastLevelAround(grid, filling, cell);
            // From the last direction to the first, so that the lowest one stays.
            for (int d = DIRECTIONS - 1; d >= 0; d--) {
                int neighbor = grid.neighbor(cell, d);
                boolean isChoice = Rows.has(flat, cell)
                        ? isOnLevel(filling, cell, neighbor, Rows.at(ranks, cell) - 1)
                        : neighbor != NONE && Rows.at(filling.levels, neighbor) == least;
                if (isChoice) {
                    Rows.put(directions, cell, d);
                    Rows.add(choices, cell, 1);
                    Rows.put(targets, cell, neighbor);
                }
            }
        }

        private void findSequence() {
            Arrays.fill(pending, 0);
            for (int c = 0; c < size; c++) {
                Rows.add(pending, Rows.at(targets, c), 1);
            }
            int placed = 0;
            for (int c = 0; c < size; c++) {
                if (Rows.at(pending, c) == 0) {
                    Rows.put(sequence, placed, c);
                    placed++;
                }
            }
            for (int k = 0; k < size; k++) {
                int target = Rows.at(targets, Rows.at(sequence, k));
                Rows.add(pending, target, -1);
                if (target != NONE && Rows.at(pending, target) == 0) {
                    Rows.put(sequence, placed, target);
                    placed++;
                }
            }
        }

        private void findMouths() {
            for (int k = size - 1; k >= 0; k--) {
                int c = Rows.at(sequence, k);
                int target = Rows.at(targets, c);
                Rows.put(mouths, c, target == NONE ? c : Rows.at(mouths, target));
                Rows.put(steps, c, target == NONE ? 0 : Rows.at(steps, target) + 1);
            }
        }

        int downstream(int cell, int number) {
            int c = cell;
            for (int k = 0; k < number && k < MOST_CELLS; k++) {
                c = Rows.at(targets, c);
            }
            return c;
        }

        int firstOutside(int cell, long cells) {
            int c = cell;
            for (int k = 0; k < MOST_CELLS && Rows.has(cells, c); k++) {
                c = Rows.at(targets, c);
            }
            return c;
        }

        /** The cells whose routes contain a cell. */
        long above(int cell) {
            long cells = 1L << cell;
            // From the end, so that the cell to which a cell flows is looked at before it.
            for (int k = size - 1; k >= 0; k--) {
                int c = Rows.at(sequence, k);
                if (Rows.has(cells, Rows.at(targets, c))) {
                    cells |= 1L << c;
                }
            }
            return cells;
        }
    }

    /** What flows into each cell, soaks away there and flows on. */
    static final class Waters {
        final int[] inflows;
        final int[] amounts;
        final int[] soaked;
        final int[] outflows;

        Waters() {
            inflows = new int[MOST_CELLS];
            amounts = new int[MOST_CELLS];
            soaked = new int[MOST_CELLS];
            outflows = new int[MOST_CELLS];
        }

        void run(Grid grid, Flows flows) {
            Arrays.fill(inflows, 0);
            for (int k = 0; k < flows.size; k++) {
                int c = Rows.at(flows.sequence, k);
                int amount = Rows.at(inflows, c) + Rows.at(grid.rains, c);
                int soak = Math.min(amount, Rows.at(grid.soaks, c));
                Rows.put(amounts, c, amount);
                Rows.put(soaked, c, soak);
                Rows.put(outflows, c, amount - soak);
                Rows.add(inflows, Rows.at(flows.targets, c), amount - soak);
            }
        }
    }

    /** Stream cells, their orders and reaches. */
    static final class Streams {
        long cells;
        final int[] orders;
        final int[] feeders;
        /** The greatest order of the feeders of each cell. */
        final int[] greatest;
        /** How many feeders of each cell have this order. */
        final int[] greatestNumber;
        final int[] reachOfCells;
        int reachNumber;
        final int[] firsts;
        final int[] lasts;
        final int[] lengths;

        Streams() {
            orders = new int[MOST_CELLS];
            feeders = new int[MOST_CELLS];
            greatest = new int[MOST_CELLS];
            greatestNumber = new int[MOST_CELLS];
            reachOfCells = new int[MOST_CELLS];
            firsts = new int[MOST_CELLS];
            lasts = new int[MOST_CELLS];
            lengths = new int[MOST_CELLS];
        }

        void find(Grid grid, Flows flows, Waters waters) {
            findCells(grid, waters);
            findOrders(flows);
            beginReaches(grid);
            followReaches(flows);
        }

        private void findCells(Grid grid, Waters waters) {
            cells = 0L;
            int size = grid.size();
            for (int c = 0; c < size; c++) {
                if (Rows.at(waters.amounts, c) >= grid.threshold) {
                    cells |= 1L << c;
                }
            }
        }

        private void findOrders(Flows flows) {
            Arrays.fill(orders, 0);
            Arrays.fill(feeders, 0);
            Arrays.fill(greatest, 0);
            Arrays.fill(greatestNumber, 0);
            for (int k = 0; k < flows.size; k++) {
                int c = Rows.at(flows.sequence, k);
                if (Rows.has(cells, c)) {
                    // All feeders of the cell stand before it in the sequence.
                    int highest = Rows.at(greatest, c);
                    int order = Rows.at(greatestNumber, c) == 1 ? highest : highest + 1;
                    Rows.put(orders, c, order);
                    feed(Rows.at(flows.targets, c), order);
                }
            }
        }

        private void feed(int cell, int order) {
            if (!Rows.has(cells, cell)) {
                return;
            }
            Rows.add(feeders, cell, 1);
            if (order > Rows.at(greatest, cell)) {
                Rows.put(greatest, cell, order);
                Rows.put(greatestNumber, cell, 1);
            } else if (order == Rows.at(greatest, cell)) {
                Rows.add(greatestNumber, cell, 1);
            }
        }

        private boolean isBeginning(int cell) {
            return Rows.has(cells, cell) && Rows.at(feeders, cell) != 1;
        }

        private void beginReaches(Grid grid) {
            Arrays.fill(lengths, 0);
            reachNumber = 0;
            int size = grid.size();
            for (int c = 0; c < size; c++) {
                if (isBeginning(c)) {
                    Rows.put(reachOfCells, c, reachNumber);
                    Rows.put(firsts, reachNumber, c);
                    reachNumber++;
                }
            }
        }

        private void followReaches(Flows flows) {
            for (int k = 0; k < flows.size; k++) {
                int c = Rows.at(flows.sequence, k);
                if (Rows.has(cells, c)) {
                    int reach = Rows.at(reachOfCells, c);
                    Rows.put(lasts, reach, c);
                    Rows.add(lengths, reach, 1);
                    int target = Rows.at(flows.targets, c);
                    if (Rows.has(cells, target) && !isBeginning(target)) {
                        Rows.put(reachOfCells, target, reach);
                    }
                }
            }
        }

        /** The reach that begins with the cell to which the last cell of a reach flows, or NONE. */
        int reachBehind(Flows flows, int reach) {
            int target = Rows.at(flows.targets, Rows.at(lasts, reach));
            return isBeginning(target) ? Rows.at(reachOfCells, target) : NONE;
        }
    }

    /** The pools of all numbers, joined to depressions. */
    static final class Depressions {
        /** Far above what 64 cells allow: a tree over pools that have no cell in common. */
        static final int MOST = 2 * MOST_CELLS;

        int number;
        final int[] firstNumbers;
        final int[] lastNumbers;
        final int[] parents;
        final long[] firstPools;
        final long[] lastPools;

        Depressions() {
            firstNumbers = new int[MOST];
            lastNumbers = new int[MOST];
            parents = new int[MOST];
            firstPools = new long[MOST];
            lastPools = new long[MOST];
        }

        void find(Grid grid) {
            number = 0;
            int size = grid.size();
            for (int low = 0; low <= HIGHEST; low++) {
                long left = grid.poolCells(low);
                for (int c = 0; c < size && left != 0L; c++) {
                    if (Rows.has(left, c)) {
                        long pool = grid.reachable(1L << c, left);
                        left &= ~pool;
                        place(pool, low);
                    }
                }
            }
        }

        /** Makes a pool the next one of the only depression that it contains, or the first one of a new one. */
        private void place(long pool, int low) {
            int contained = 0;
            int only = NONE;
            for (int d = 0; d < number; d++) {
                if (isWithin(d, pool, low)) {
                    contained++;
                    only = d;
                }
            }
            if (contained == 1) {
                Rows.put(lastNumbers, only, low);
                Rows.put(lastPools, only, pool);
            } else if (number < MOST) {
                for (int d = 0; d < number; d++) {
                    if (isWithin(d, pool, low)) {
                        Rows.put(parents, d, number);
                    }
                }
                begin(pool, low);
            }
        }

        /** Whether the last pool so far of a depression is one of the number before, within a pool. */
        private boolean isWithin(int depression, long pool, int low) {
            return Rows.at(lastNumbers, depression) == low - 1 && (Rows.at(lastPools, depression) & pool) != 0L;
        }

        private void begin(long pool, int low) {
            Rows.put(firstNumbers, number, low);
            Rows.put(lastNumbers, number, low);
            Rows.put(parents, number, NONE);
            Rows.put(firstPools, number, pool);
            Rows.put(lastPools, number, pool);
            number++;
        }

        int rim(int depression) {
            return Rows.at(lastNumbers, depression) + 1;
        }

        int capacity(Grid grid, int depression) {
            long cells = Rows.at(lastPools, depression);
            return rim(depression) * Long.bitCount(cells) - Rows.sum(grid.heights, cells);
        }

        int children(int depression) {
            int children = 0;
            for (int d = 0; d < number; d++) {
                if (Rows.at(parents, d) == depression) {
                    children++;
                }
            }
            return children;
        }

        int depthInTree(int depression) {
            int depth = 0;
            int above = Rows.at(parents, depression);
            for (int k = 0; k < MOST && above != NONE; k++) {
                depth++;
                above = Rows.at(parents, above);
            }
            return depth;
        }

        /** The depression without a parent whose last pool contains a cell, or NONE. */
        int rootAt(int cell) {
            for (int d = 0; d < number; d++) {
                if (Rows.at(parents, d) == NONE && Rows.has(Rows.at(lastPools, d), cell)) {
                    return d;
                }
            }
            return NONE;
        }

        /** The depression to which the pool of a number belongs that contains a cell, or NONE. */
        int at(Grid grid, int cell, int low) {
            long pool = grid.reachable(1L << cell, grid.poolCells(low));
            for (int d = 0; d < number; d++) {
                boolean isOpen = Rows.at(firstNumbers, d) <= low && low <= Rows.at(lastNumbers, d);
                // Two depressions that are open at the same number have no cell in common.
                if (isOpen && (Rows.at(lastPools, d) & pool) != 0L) {
                    return d;
                }
            }
            return NONE;
        }
    }

    /**
     * The best way of a cell. A value counts a way: its cost times COST, plus its steps; so the lesser value is the
     * lesser cost and, of equal costs, the fewer cells.
     */
    static final class Carving {
        static final int COST = 1000;
        static final int UNKNOWN = 1000000000;

        /** The value of the best way of each cell, as far as it was found. */
        final int[] own;
        /** The value of going on from each cell if the cell got the height that is solved. */
        final int[] values;
        final int[] way;
        int length;
        int cost;

        Carving() {
            own = new int[MOST_CELLS];
            values = new int[MOST_CELLS];
            way = new int[MOST_CELLS];
        }

        void plan(Grid grid, int start) {
            int height = Rows.at(grid.heights, start);
            for (int h = 0; h <= height && h <= HIGHEST; h++) {
                if (grid.hasHeight(h)) {
                    solve(grid, h);
                    keepOwn(grid, h);
                }
            }
            length = 0;
            cost = 0;
            int c = start;
            for (int k = 0; k < MOST_CELLS && c != NONE; k++) {
                Rows.put(way, length, c);
                length++;
                c = grid.isOutlet(c) ? NONE : bestStep(grid, c, height);
                if (c != NONE && Rows.at(grid.heights, c) < height) {
                    height = Rows.at(grid.heights, c);
                    solve(grid, height);
                } else if (c != NONE) {
                    cost += Rows.at(grid.heights, c) - height;
                }
            }
        }

        /** Finds the values of all cells that are not lower than a height; those of lower cells are their own. */
        private void solve(Grid grid, int height) {
            int size = grid.size();
            for (int c = 0; c < size; c++) {
                Rows.put(values, c, grid.isOutlet(c) ? 0 : UNKNOWN);
            }
            boolean isChanging = true;
            for (int pass = 0; pass < MOST_CELLS && isChanging; pass++) {
                isChanging = false;
                for (int i = 0; i < size; i++) {
                    // To and fro, for then a few passes are enough.
                    int c = pass % 2 == 0 ? i : size - 1 - i;
                    if (Rows.at(grid.heights, c) >= height && improve(grid, c, height)) {
                        isChanging = true;
                    }
                }
            }
        }

        private boolean improve(Grid grid, int cell, int height) {
            int best = Rows.at(values, cell);
            for (int d = 0; d < DIRECTIONS; d++) {
                best = Math.min(best, stepValue(grid, grid.neighbor(cell, d), height));
            }
            boolean isBetter = best < Rows.at(values, cell);
            Rows.put(values, cell, best);
            return isBetter;
        }

        /** The value of a step to a cell and of going on from there. */
        private int stepValue(Grid grid, int cell, int height) {
            if (cell == NONE) {
                return UNKNOWN;
            }
            int rise = Rows.at(grid.heights, cell) - height;
            return rise < 0 ? Rows.at(own, cell) + 1 : Rows.at(values, cell) + rise * COST + 1;
        }

        private void keepOwn(Grid grid, int height) {
            int size = grid.size();
            for (int c = 0; c < size; c++) {
                if (Rows.at(grid.heights, c) == height) {
                    Rows.put(own, c, Rows.at(values, c));
                }
            }
        }

        private int bestStep(Grid grid, int cell, int height) {
            for (int d = 0; d < DIRECTIONS; d++) {
                int neighbor = grid.neighbor(cell, d);
                if (stepValue(grid, neighbor, height) == Rows.at(values, cell)) {
                    return neighbor;
                }
            }
            return NONE;
        }

        /** Carves the way that was planned and tells how many cells have another height then. */
        int carve(Grid grid) {
            int changed = 0;
            int height = Rows.at(grid.heights, Rows.at(way, 0));
            for (int k = 1; k < length; k++) {
                int c = Rows.at(way, k);
                int before = Rows.at(grid.heights, c);
                height = Math.min(height, before);
                Rows.put(grid.heights, c, height);
                if (height != before) {
                    changed++;
                }
            }
            return changed;
        }
    }

    /** The section between two cells. */
    static final class Line {
        final int[] cells;
        int length;

        Line() {
            cells = new int[MOST_SIDE];
        }

        void draw(Grid grid, int from, int to) {
            int x = grid.columnOf(from);
            int y = grid.rowOf(from);
            int across = grid.columnOf(to) - x;
            int down = grid.rowOf(to) - y;
            int n = Math.max(Math.abs(across), Math.abs(down));
            length = n + 1;
            for (int k = 0; k <= n; k++) {
                Rows.put(cells, k, (y + moved(k, down, n)) * grid.width + x + moved(k, across, n));
            }
        }

        private static int moved(int k, int distance, int n) {
            return n > 0 ? Math.floorDiv(2 * k * distance + n, 2 * n) : 0;
        }

        long cellSet() {
            long set = 0L;
            for (int k = 0; k < length; k++) {
                set |= 1L << Rows.at(cells, k);
            }
            return set;
        }

        private int heightAt(Grid grid, int k) {
            return Rows.at(grid.heights, Rows.at(cells, k));
        }

        /** The sum of all rises, or with the sign -1 of all falls. */
        int rises(Grid grid, int sign) {
            int sum = 0;
            for (int k = 1; k < length; k++) {
                sum += Math.max(0, sign * (heightAt(grid, k) - heightAt(grid, k - 1)));
            }
            return sum;
        }

        /** Whether no cell between the first one and the last one hides the last one. */
        boolean isOpen(Grid grid, int eye) {
            int n = length - 1;
            int eyeHeight = heightAt(grid, 0) + eye;
            int slope = heightAt(grid, n) - eyeHeight;
            for (int k = 1; k < n; k++) {
                if (n * (heightAt(grid, k) - eyeHeight) > k * slope) {
                    return false;
                }
            }
            return true;
        }
    }

    /** The buffer, and the reader of the commands in it. */
    static final class Text {
        static final int MOST_SIGNS = 60;
        /** Stands behind the last sign; the buffer never holds it. */
        static final char END = 0;

        final char[] signs;
        int length;
        int error;
        private int place;
        private int kind;
        private int cell;
        private int number;

        Text() {
            signs = new char[MOST_SIGNS];
            length = 0;
            error = NONE;
        }

        /** The caller has looked whether there is room. */
        void add(char sign) {
            if (length >= 0 && length < signs.length) {
                signs[length] = sign;
                length++;
            }
        }

        /** The number of the commands, or NONE if there is an error, whose place is kept. */
        int countCommands(int size) {
            int commands = 0;
            place = 0;
            for (int k = 0; k < MOST_SIGNS; k++) {
                error = readCommand(size);
                if (error != NONE) {
                    return NONE;
                }
                commands++;
                if (sign() == END) {
                    return commands;
                }
                if (sign() != ';') {
                    error = place;
                    return NONE;
                }
                place++;
            }
            return commands;
        }

        /** Carries out a text without an error; false if a command would take the only outlet away. */
        boolean carryOut(Grid grid) {
            place = 0;
            for (int k = 0; k < MOST_SIGNS && place < length; k++) {
                readCommand(grid.size());
                // Over the semicolon.
                place++;
                if (kind == 'o' && number == 0 && grid.isOnlyOutlet(cell)) {
                    return false;
                }
                carryOutCommand(grid);
            }
            return true;
        }

        private void carryOutCommand(Grid grid) {
            switch (kind) {
                case 'h':
                    Rows.put(grid.heights, cell, number);
                    break;
                case 'r':
                    Rows.put(grid.rains, cell, number);
                    break;
                case 's':
                    Rows.put(grid.soaks, cell, number);
                    break;
                default:
                    grid.markOutlet(cell, number == 1);
                    break;
            }
        }

        private char sign() {
            return place >= 0 && place < length && place < signs.length ? signs[place] : END;
        }

        private boolean isDigit() {
            return sign() >= '0' && sign() <= '9';
        }

        /** Reads the command at the place and goes behind it; the place of an error, or NONE. */
        private int readCommand(int size) {
            kind = sign();
            if (kind != 'h' && kind != 'r' && kind != 's' && kind != 'o') {
                return place;
            }
            place++;
            int first = place;
            if (!isDigit()) {
                return place;
            }
            cell = readNumber();
            if (cell >= size) {
                return first;
            }
            return kind == 'o' ? readMark() : readValue();
        }

        private int readMark() {
            if (sign() != '+' && sign() != '-') {
                return place;
            }
            number = sign() == '+' ? 1 : 0;
            place++;
            return NONE;
        }

        private int readValue() {
            if (sign() != '=') {
                return place;
            }
            place++;
            if (!isDigit()) {
                return place;
            }
            number = kind == 'h' ? readNumber() : readDigit();
            return NONE;
        }

        private int readDigit() {
            int digit = sign() - '0';
            place++;
            return digit;
        }

        /** Reads one digit, or two that do not start with 0. */
        private int readNumber() {
            int read = readDigit();
            return read != 0 && isDigit() ? read * 10 + readDigit() : read;
        }
    }
}
