import java.util.NoSuchElementException;

/**
 * A method that throws an exception leaves the state as it was, and throws the exception that is listed first; a
 * question leaves the state as it was, too. Each call is made on an object with all that a state can have, and what the
 * object tells of itself afterwards, to its oldest change and to what is saved, is compared with what one tells that
 * was made alike and spared the call.
 */
public final class RefusalTests {

    private static final Class<?> INDEX = IndexOutOfBoundsException.class;
    private static final Class<?> ARGUMENT = IllegalArgumentException.class;
    private static final Class<?> STATE = IllegalStateException.class;
    private static final Class<?> ELEMENT = NoSuchElementException.class;
    private static final Class<?> ARITHMETIC = ArithmeticException.class;
    private static final Class<?> NOTHING = null;

    private static int passed = 0;
    private static int failed = 0;
    private static Maker maker = RefusalTests::full;

    private interface Maker {
        WatershedMapper make();
    }

    private interface Call {
        Object on(WatershedMapper mapper);
    }

    public static void main(String[] args) {
        refusedSettings();
        refusedQuestionsOfCells();
        refusedQuestionsOfFlow();
        refusedQuestionsOfPools();
        refusedSections();
        refusedTexts();
        refusedWithoutAny();
        questions();
        tellsApart();
        System.out.println(passed + " calls left the state as it was, " + failed + " not");
        if (failed != 0) {
            System.exit(1);
        }
    }

    // ---- what the tests are written with ----

    /** Eight cells with two outlets, two lakes and streams; eight changes, a saved grid, an error and a buffer. */
    private static WatershedMapper full() {
        return full("h3=7", "h1=5;q");
    }

    private static WatershedMapper full(String buffer, String wrongText) {
        WatershedMapper mapper = new WatershedMapper();
        mapper.resize(2, 2);
        mapper.setHeight(3, 7);
        mapper.setOutlet(3, true);
        mapper.setThreshold(17);
        mapper.save();
        mapper.resize(4, 2);
        int[] heights = {2, 6, 3, 9, 20, 9, 9, 1};
        for (int c = 0; c < heights.length; c++) {
            mapper.setHeight(c, heights[c]);
        }
        mapper.setRain(3, 4);
        mapper.setSoak(3, 2);
        mapper.setOutlet(4, true);
        mapper.setThreshold(3);
        mapper.raise(4, 5, 1);
        mapper.setRain(1, 0);
        type(mapper, "h5=12");
        mapper.execute();
        mapper.setHeight(6, 11);
        type(mapper, wrongText);
        throwsAs(ARGUMENT, WatershedMapper::execute, mapper);
        type(mapper, buffer);
        return mapper;
    }

    private static WatershedMapper withOneOutlet(String buffer, String wrongText) {
        WatershedMapper mapper = full("", wrongText);
        mapper.setOutlet(4, false);
        type(mapper, buffer);
        return mapper;
    }

    private static void type(WatershedMapper mapper, String text) {
        for (int k = 0; k < text.length(); k++) {
            mapper.append(text.charAt(k));
        }
    }

    private static boolean throwsAs(Class<?> wanted, Call call, WatershedMapper mapper) {
        Class<?> got = NOTHING;
        try {
            call.on(mapper);
        } catch (RuntimeException e) {
            got = e.getClass();
        }
        return got == wanted;
    }

    /** All that an object tells of itself; it is used up by that. */
    private static String story(WatershedMapper mapper) {
        StringBuilder story = new StringBuilder();
        tellGrid(story, mapper);
        story.append("error ").append(answer(WatershedMapper::errorPosition, mapper)).append('\n');
        int left = mapper.count(10);
        while (left > 0) {
            left = mapper.undo();
            story.append("undo ").append(left).append(": ");
            tellGrid(story, mapper);
        }
        story.append("execute ").append(answer(WatershedMapper::execute, mapper)).append(": ");
        tellGrid(story, mapper);
        story.append("error ").append(answer(WatershedMapper::errorPosition, mapper)).append('\n');
        story.append("restore ").append(answer(WatershedMapper::restore, mapper)).append(": ");
        tellGrid(story, mapper);
        return story.toString();
    }

    private static Object answer(Call call, WatershedMapper mapper) {
        try {
            return call.on(mapper);
        } catch (RuntimeException e) {
            return e.getClass();
        }
    }

    private static void tellGrid(StringBuilder story, WatershedMapper mapper) {
        int width = mapper.count(0);
        int height = mapper.count(1);
        story.append(width).append(' ').append(height).append(' ');
        for (int what : new int[] {3, 9, 10}) {
            story.append(mapper.count(what)).append(' ');
        }
        for (int c = 0; c < width * height; c++) {
            for (int what = 0; what <= 3; what++) {
                story.append(mapper.cell(c, what)).append(what < 3 ? ',' : ' ');
            }
        }
        story.append('\n');
    }

    private static void refuses(Class<?> wanted, Call call) {
        leaves(wanted, call, maker);
    }

    private static void leaves(Class<?> wanted, Call call, Maker after) {
        WatershedMapper mapper = maker.make();
        boolean isThrown = throwsAs(wanted, call, mapper);
        String got = story(mapper);
        String due = story(after.make());
        if (isThrown && got.equals(due)) {
            passed++;
            return;
        }
        failed++;
        StackTraceElement[] places = new Throwable().getStackTrace();
        System.out.println("line " + places[2].getLineNumber() + (isThrown ? ": the state is\n" + got + "due is\n" + due
                : ": not answered with " + (wanted == NOTHING ? "a value" : wanted.getName())));
    }

    private interface OfNumber {
        Object on(WatershedMapper mapper, int number);
    }

    private static void refusesCells(OfNumber call) {
        for (int cell : new int[] {-1, 8, Integer.MIN_VALUE, Integer.MAX_VALUE}) {
            refuses(INDEX, m -> call.on(m, cell));
        }
    }

    private static void refusesOutside(int least, int most, OfNumber call) {
        for (int number : new int[] {least - 1, most + 1, Integer.MIN_VALUE, Integer.MAX_VALUE}) {
            refuses(ARGUMENT, m -> call.on(m, number));
        }
    }

    // ---- refused calls; where two exceptions are possible, the call asks for both ----

    private static void refusedSettings() {
        refusesOutside(2, 8, (m, width) -> m.resize(width, 5));
        refusesOutside(2, 8, (m, height) -> m.resize(5, height));
        refusesOutside(1, 100, (m, range) -> m.scatter(1, range));
        refusesCells((m, c) -> m.setHeight(c, 5));
        refusesCells((m, c) -> m.setHeight(c, 100));
        refusesOutside(0, 99, (m, height) -> m.setHeight(3, height));
        refusesCells((m, c) -> m.raise(c, 0, 1));
        refusesCells((m, c) -> m.raise(0, c, 1));
        refusesCells((m, c) -> m.raise(c, 0, 100));
        refusesCells((m, c) -> m.raise(0, c, -100));
        refusesOutside(-99, 99, (m, amount) -> m.raise(0, 7, amount));
        refusesCells((m, c) -> m.setRain(c, 5));
        refusesCells((m, c) -> m.setRain(c, 10));
        refusesOutside(0, 9, (m, rain) -> m.setRain(3, rain));
        refusesCells((m, c) -> m.setSoak(c, 5));
        refusesCells((m, c) -> m.setSoak(c, 10));
        refusesOutside(0, 9, (m, soak) -> m.setSoak(3, soak));
        refusesCells((m, c) -> m.setOutlet(c, true));
        refusesCells((m, c) -> m.setOutlet(c, false));
        refusesOutside(1, 99, (m, threshold) -> m.setThreshold(threshold));
        maker = () -> withOneOutlet("h3=7", "x");
        refuses(STATE, m -> m.setOutlet(0, false));
        refusesCells((m, c) -> m.setOutlet(c, false));
        maker = RefusalTests::full;
    }

    private static void refusedQuestionsOfCells() {
        refusesCells((m, c) -> m.cell(c, 0));
        refusesCells((m, c) -> m.cell(c, 4));
        refusesOutside(0, 3, (m, what) -> m.cell(3, what));
        refusesOutside(0, 10, (m, what) -> m.count(what));
        refusesCells((m, c) -> m.level(c));
        refusesCells((m, c) -> m.levelByPools(c));
        for (int lake : new int[] {-1, 2, Integer.MIN_VALUE, Integer.MAX_VALUE}) {
            refuses(INDEX, m -> m.lake(lake, 0));
            refuses(INDEX, m -> m.lake(lake, 7));
            refuses(INDEX, m -> m.remedy(lake));
            refuses(INDEX, m -> m.fillLake(lake));
            refuses(INDEX, m -> m.carveLake(lake));
        }
        refusesOutside(0, 6, (m, what) -> m.lake(0, what));
        refusesCells((m, c) -> m.lakeOf(c));
        refuses(ELEMENT, m -> m.lakeOf(0));
        refuses(ELEMENT, m -> m.lakeOf(1));
        refusesCells((m, c) -> m.carveWay(c, 0));
        refusesCells((m, c) -> m.carveWay(c, -1));
        refuses(ELEMENT, m -> m.carveWay(3, -1));
        refuses(ELEMENT, m -> m.carveWay(0, 1));
        refuses(ELEMENT, m -> m.carveWay(3, 4));
    }

    private static void refusedQuestionsOfFlow() {
        refusesCells((m, c) -> m.flow(c));
        refuses(ELEMENT, m -> m.flow(0));
        refusesCells((m, c) -> m.why(c, 0));
        refusesCells((m, c) -> m.why(c, 3));
        refusesOutside(0, 2, (m, what) -> m.why(3, what));
        refusesCells((m, c) -> m.route(c, 0));
        refusesCells((m, c) -> m.route(c, -2));
        refuses(ELEMENT, m -> m.route(3, -2));
        refuses(ELEMENT, m -> m.route(0, 1));
        refuses(ELEMENT, m -> m.route(3, Integer.MIN_VALUE));
        refuses(ELEMENT, m -> m.route(3, Integer.MAX_VALUE));
        refusesCells((m, c) -> m.upstream(c));
        refusesCells((m, c) -> m.water(c, 0));
        refusesCells((m, c) -> m.water(c, 4));
        refusesOutside(0, 3, (m, what) -> m.water(3, what));
        refusesOutside(0, 5, (m, what) -> m.account(what));
        refusesCells((m, c) -> m.order(c));
        refuses(INDEX, m -> m.reach(-1, 0));
        refuses(INDEX, m -> m.reach(-1, 5));
        refuses(INDEX, m -> m.reach(m.count(6), 0));
        refuses(INDEX, m -> m.reach(m.count(6), -1));
        refusesOutside(0, 4, (m, what) -> m.reach(0, what));
        refusesCells((m, c) -> m.reachOf(c));
        refuses(ELEMENT, m -> m.reachOf(4));
        refusesCells((m, c) -> m.basin(c, 0));
        refusesCells((m, c) -> m.basin(c, 4));
        refuses(STATE, m -> m.basin(3, 0));
        refuses(STATE, m -> m.basin(3, 4));
        refusesOutside(0, 3, (m, what) -> m.basin(0, what));
    }

    private static void refusedQuestionsOfPools() {
        refuses(INDEX, m -> m.depression(-1, 0));
        refuses(INDEX, m -> m.depression(-1, 8));
        refuses(INDEX, m -> m.depression(m.count(7), 0));
        refuses(INDEX, m -> m.depression(m.count(7), -1));
        refusesOutside(0, 7, (m, what) -> m.depression(0, what));
        refusesCells((m, c) -> m.depressionAt(c, 5));
        refusesCells((m, c) -> m.depressionAt(c, 100));
        refusesOutside(0, 99, (m, number) -> m.depressionAt(3, number));
        refuses(ELEMENT, m -> m.depressionAt(0, 99));
        refuses(ELEMENT, m -> m.depressionAt(3, 0));
        refusesOutside(0, 99, (m, number) -> m.pools(number));
        refusesOutside(1, 99, (m, number) -> m.contour(number, 0));
        refusesOutside(1, 99, (m, number) -> m.contour(number, 4));
        refusesOutside(0, 3, (m, what) -> m.contour(50, what));
    }

    private static void refusedSections() {
        refusesCells((m, c) -> m.section(c, 0, 0));
        refusesCells((m, c) -> m.section(0, c, 6));
        refusesOutside(0, 5, (m, what) -> m.section(0, 7, what));
        refusesCells((m, c) -> m.sectionCell(c, 0, 0));
        refusesCells((m, c) -> m.sectionCell(0, c, -1));
        refuses(ELEMENT, m -> m.sectionCell(0, 7, -1));
        refuses(ELEMENT, m -> m.sectionCell(0, 7, 4));
        refuses(ELEMENT, m -> m.sectionCell(5, 5, 1));
        refusesCells((m, c) -> m.sees(c, 0, 0));
        refusesCells((m, c) -> m.sees(0, c, 100));
        refusesOutside(0, 99, (m, eye) -> m.sees(0, 7, eye));
        refusesCells((m, c) -> m.viewshed(c, 0));
        refusesCells((m, c) -> m.viewshed(c, 100));
        refusesOutside(0, 99, (m, eye) -> m.viewshed(0, eye));
        refusesCells((m, c) -> m.depthsIf(c, 0));
        refusesCells((m, c) -> m.depthsIf(c, 100));
        refusesOutside(0, 99, (m, height) -> m.depthsIf(0, height));
        refusesCells((m, c) -> m.leavingIf(c, 0));
        refusesCells((m, c) -> m.leavingIf(c, 10));
        refusesOutside(0, 9, (m, soak) -> m.leavingIf(0, soak));
        refusesCells((m, c) -> m.mouthIf(c, 0));
        refusesCells((m, c) -> m.mouthIf(0, c));
        for (int index : new int[] {-1, 9, Integer.MIN_VALUE, Integer.MAX_VALUE}) {
            refuses(INDEX, m -> m.map(index));
        }
    }

    private static void refusedTexts() {
        for (int code : new int[] {0, 32, 127, 65535}) {
            refuses(ARGUMENT, m -> m.append((char) code));
        }
        maker = () -> full("h3=7" + ";h3=7".repeat(11) + "x", "x");
        refuses(STATE, m -> m.append('x'));
        refuses(ARGUMENT, m -> m.append(' '));
        // After a refused text the buffer is empty, and nothing else is different but, with an error, its position.
        for (String text : new String[] {"", "x", "h3=7;h2", "h3=7;r8=1", "o0-;o4-;"}) {
            maker = () -> full(text, "h1=5;q");
            leaves(ARGUMENT, WatershedMapper::execute, () -> full("", text));
        }
        for (String text : new String[] {"o0-", "h3=7;r3=1;s3=1;o0-;h2=1", "o0-;o4+", "o4+;o0-;o4-"}) {
            maker = () -> withOneOutlet(text, "h1=5;q");
            leaves(STATE, WatershedMapper::execute, () -> withOneOutlet("", "h1=5;q"));
        }
        maker = RefusalTests::full;
    }

    private static void refusedWithoutAny() {
        maker = WatershedMapper::new;
        refuses(STATE, WatershedMapper::undo);
        refuses(STATE, WatershedMapper::restore);
        refuses(ELEMENT, WatershedMapper::errorPosition);
        refuses(ARITHMETIC, WatershedMapper::meanDepth);
        refuses(INDEX, m -> m.lake(0, 0));
        refuses(INDEX, m -> m.remedy(0));
        refuses(INDEX, m -> m.fillLake(0));
        refuses(INDEX, m -> m.carveLake(0));
        refuses(INDEX, m -> m.depression(0, 0));
        refuses(INDEX, m -> m.reach(1, 0));
        maker = RefusalTests::full;
    }

    // ---- questions ----

    private static void questions() {
        for (int c = 0; c < 8; c++) {
            int cell = c;
            Call[] calls = {m -> m.cell(cell, 0), m -> m.level(cell), m -> m.levelByPools(cell),
                m -> m.carveWay(cell, 0), m -> m.why(cell, 1), m -> m.route(cell, -1), m -> m.upstream(cell),
                m -> m.water(cell, 3), m -> m.order(cell), m -> m.section(cell, 5, 5), m -> m.sectionCell(5, cell, 0),
                m -> m.sees(cell, 5, 3), m -> m.viewshed(cell, 3), m -> m.depthsIf(cell, 0), m -> m.depthsIf(cell, 99),
                m -> m.leavingIf(cell, 0), m -> m.leavingIf(cell, 9), m -> m.mouthIf(cell, 3), m -> m.mouthIf(3, cell)};
            for (Call call : calls) {
                refuses(NOTHING, call);
            }
        }
        for (int what = 0; what <= 10; what++) {
            int asked = what;
            refuses(NOTHING, m -> m.count(asked));
            refuses(NOTHING, m -> m.account(asked % 6));
            refuses(NOTHING, m -> m.lake(asked % 2, asked % 7));
            refuses(NOTHING, m -> m.reach(0, asked % 5));
            refuses(NOTHING, m -> m.basin(4, asked % 4));
            refuses(NOTHING, m -> m.depression(1, asked % 8));
            refuses(NOTHING, m -> m.contour(9, asked % 4));
            refuses(NOTHING, m -> m.map(asked % 9));
        }
        Call[] others = {m -> m.lakeOf(2), m -> m.remedy(0), m -> m.remedy(1), m -> m.meanDepth(), m -> m.flow(3),
            m -> m.reachOf(0), m -> m.divides(), m -> m.depressionAt(2, 5), m -> m.pools(8), m -> m.errorPosition()};
        for (Call call : others) {
            refuses(NOTHING, call);
        }
    }

    /** The stories are worth something: calls that do change the state change them. */
    private static void tellsApart() {
        String before = story(full());
        Call[] calls = {m -> m.setHeight(3, 9), m -> m.save(), m -> m.undo(), m -> m.restore(), m -> m.append('1'),
            m -> m.execute(), m -> m.setThreshold(3), m -> m.setOutlet(4, true), m -> m.fillLake(0),
            m -> m.carveLake(1), m -> m.resize(4, 2), m -> m.scatter(1, 100), m -> m.raise(0, 0, 0),
            m -> m.setRain(0, 1), m -> m.setSoak(0, 0)};
        for (Call call : calls) {
            WatershedMapper mapper = full();
            call.on(mapper);
            if (story(mapper).equals(before)) {
                failed++;
                System.out.println("a story tells nothing of a change");
            }
        }
    }
}
