import java.lang.reflect.InvocationTargetException;
import java.lang.reflect.Method;
import java.lang.reflect.Modifier;
import java.util.ArrayDeque;
import java.util.ArrayList;
import java.util.Arrays;
import java.util.HashMap;
import java.util.HashSet;
import java.util.List;
import java.util.Map;
import java.util.NoSuchElementException;
import java.util.PriorityQueue;
import java.util.Random;
import java.util.Set;
import java.util.TreeSet;

/**
 * Random runs of calls, answered by the program and by a second, slow program that follows the document's words; each
 * answer and each exception must be the same. The number of runs and the first seed may be given as arguments.
 */
public final class OracleTests {

    private static final int CALLS = 512;

    private final Random random;
    private final List<Method> methods = new ArrayList<>();
    private final List<String> told = new ArrayList<>();
    private final WatershedMapper mapper = new WatershedMapper();
    private final Model model = new Model();

    private OracleTests(long seed) {
        random = new Random(seed);
        for (Method method : WatershedMapper.class.getDeclaredMethods()) {
            if (Modifier.isPublic(method.getModifiers())) {
                methods.add(method);
            }
        }
        methods.sort((a, b) -> a.getName().compareTo(b.getName()));
    }

    public static void main(String[] args) throws Exception {
        int runs = args.length > 0 ? Integer.parseInt(args[0]) : 60;
        int from = args.length > 1 ? Integer.parseInt(args[1]) : 0;
        Set<String> answered = new HashSet<>();
        for (int seed = from; seed < from + runs; seed++) {
            OracleTests run = new OracleTests(seed);
            if (!run.isRight(answered)) {
                System.out.println("seed " + seed + ":");
                run.told.forEach(System.out::println);
                System.exit(1);
            }
        }
        System.out.println(runs + " random runs are as the model answers; " + answered.size() + " kinds of answers");
    }

    private boolean isRight(Set<String> answered) throws Exception {
        int side = 2 + random.nextInt(7);
        boolean isAlike = random.nextInt(4) == 0
                || isSame("resize", new Object[] {side, random.nextInt(3) == 0 ? 2 + random.nextInt(7) : side});
        for (int k = 1; k < CALLS && isAlike; k++) {
            int kind = random.nextInt(100);
            if (kind < 4) {
                isAlike = isSame("scatter", new Object[] {random.nextInt(), 1 + random.nextInt(1 + random.nextInt(100))});
            } else if (kind < 7) {
                isAlike = runText();
            } else {
                Method method = methods.get(random.nextInt(methods.size()));
                boolean isRare = method.getName().equals("resize") || method.getName().equals("restore");
                isAlike = isRare && random.nextInt(4) > 0 || isSame(method.getName(), anyArguments(method));
            }
        }
        for (String line : told) {
            answered.add(line.replaceAll("\\(.*\\) -> ", " ").replaceAll("-?\\d+(\\.\\d+)?", "#"));
        }
        return isAlike;
    }

    private boolean runText() throws Exception {
        StringBuilder text = new StringBuilder();
        int commands = 1 + random.nextInt(5);
        for (int k = 0; k < commands; k++) {
            text.append(k > 0 ? ";" : "");
            int cell = random.nextInt(12) == 0 ? random.nextInt(110) : random.nextInt(model.size());
            switch (random.nextInt(4)) {
                case 0 -> text.append("h").append(cell).append("=").append(random.nextInt(103));
                case 1 -> text.append("r").append(cell).append("=").append(random.nextInt(11));
                case 2 -> text.append("s").append(cell).append("=").append(random.nextInt(11));
                default -> text.append("o").append(cell).append(random.nextBoolean() ? '+' : '-');
            }
        }
        String signs = "hrso0123456789=+-;;==x~!";
        if (random.nextInt(3) == 0) {
            int place = random.nextInt(text.length());
            switch (random.nextInt(3)) {
                case 0 -> text.setCharAt(place, signs.charAt(random.nextInt(signs.length())));
                case 1 -> text.deleteCharAt(place);
                default -> text.insert(place, signs.charAt(random.nextInt(signs.length())));
            }
        }
        for (int k = 0; k < text.length(); k++) {
            if (!isSame("append", new Object[] {text.charAt(k)})) {
                return false;
            }
        }
        return isSame("execute", new Object[0]) && isSame("errorPosition", new Object[0])
                && isSame("count", new Object[] {9});
    }

    private Object[] anyArguments(Method method) {
        Class<?>[] types = method.getParameterTypes();
        Object[] arguments = new Object[types.length];
        int[] odd = {-1, -2, Integer.MIN_VALUE, Integer.MAX_VALUE, 64, 100, 1000, 1 << 31 - 6};
        for (int k = 0; k < types.length; k++) {
            if (types[k] == boolean.class) {
                arguments[k] = random.nextBoolean();
            } else if (types[k] == char.class) {
                String usual = "hhrso0123456789===;;+-";
                arguments[k] = random.nextInt(20) == 0 ? (char) random.nextInt(140)
                        : usual.charAt(random.nextInt(usual.length()));
            } else if (random.nextInt(30) == 0) {
                arguments[k] = odd[random.nextInt(odd.length)];
            } else {
                arguments[k] = usualNumber(method.getName(), k);
            }
        }
        return arguments;
    }

    private int usualNumber(String name, int k) {
        boolean isWhat = k > 0 && List.of("cell", "lake", "why", "water", "reach", "basin", "depression", "contour")
                .contains(name) || name.equals("count") || name.equals("account") || name.equals("section") && k == 2;
        if (isWhat) {
            return random.nextInt(name.equals("count") ? 12 : 9);
        }
        if (name.equals("resize")) {
            return 1 + random.nextInt(8);
        }
        if (name.equals("raise") && k == 2) {
            return random.nextInt(200) - 100;
        }
        if (name.equals("basin") && random.nextBoolean()) {
            return model.anyOutlet(random);
        }
        if (List.of("lake", "remedy", "fillLake", "carveLake", "reach", "depression").contains(name)) {
            return random.nextInt(1 + random.nextInt(40));
        }
        boolean isHeight = k == 1 && List.of("setHeight", "depthsIf", "viewshed").contains(name)
                || List.of("pools", "contour").contains(name) || name.equals("depressionAt") && k == 1;
        if (isHeight || name.equals("sees") && k == 2) {
            return random.nextInt(101);
        }
        if (k == 1 && List.of("setRain", "setSoak", "leavingIf").contains(name)) {
            return random.nextInt(10);
        }
        if (name.equals("setThreshold")) {
            return 1 + random.nextInt(1 + random.nextInt(100));
        }
        boolean isIndex = List.of("route", "carveWay", "sectionCell").contains(name) && k > 0;
        if (isIndex && k == (name.equals("sectionCell") ? 2 : 1)) {
            return random.nextInt(1 + random.nextInt(20)) - 1;
        }
        return name.equals("map") ? random.nextInt(75) : random.nextInt(model.size() + random.nextInt(2));
    }

    private boolean isSame(String name, Object[] arguments) throws Exception {
        Method called = null;
        for (Method method : methods) {
            called = method.getName().equals(name) ? method : called;
        }
        Method due = Model.class.getDeclaredMethod(name, called.getParameterTypes());
        Object got = answer(called, mapper, arguments);
        Object want = answer(due, model, arguments);
        told.add(name + Arrays.toString(arguments).replace('[', '(').replace(']', ')') + " -> " + got);
        if (!got.equals(want)) {
            told.add("due is " + want);
        }
        return got.equals(want);
    }

    private static Object answer(Method method, Object object, Object[] arguments) throws Exception {
        try {
            return method.invoke(object, arguments);
        } catch (InvocationTargetException e) {
            return e.getCause().getClass().getName();
        }
    }

    /** The second program: no bit tricks, no kept results, all from the words of the document. */
    static final class Model {

        /** What is saved and taken back. */
        static final class State {
            int width = 5;
            int rows = 5;
            int threshold = 5;
            int[] height;
            int[] rain;
            int[] soak;
            boolean[] outlet;

            State(int width, int rows) {
                this.width = width;
                this.rows = rows;
                height = new int[width * rows];
                rain = new int[width * rows];
                soak = new int[width * rows];
                outlet = new boolean[width * rows];
                Arrays.fill(height, 50);
                Arrays.fill(rain, 1);
                outlet[0] = true;
            }

            State(State other) {
                width = other.width;
                rows = other.rows;
                threshold = other.threshold;
                height = other.height.clone();
                rain = other.rain.clone();
                soak = other.soak.clone();
                outlet = other.outlet.clone();
            }

            int cells() {
                return width * rows;
            }

            /** The neighbor in a direction, or -1. */
            int toward(int cell, int direction) {
                int x = cell % width + new int[] {0, 1, 0, -1}[direction];
                int y = cell / width + new int[] {-1, 0, 1, 0}[direction];
                return x >= 0 && x < width && y >= 0 && y < rows ? y * width + x : -1;
            }

            List<Integer> around(int cell) {
                List<Integer> found = new ArrayList<>();
                for (int d = 0; d < 4; d++) {
                    if (toward(cell, d) >= 0) {
                        found.add(toward(cell, d));
                    }
                }
                return found;
            }

            int outlets() {
                int number = 0;
                for (boolean is : outlet) {
                    number += is ? 1 : 0;
                }
                return number;
            }

            /** The parts of a set, as large as possible, in ascending order of their lowest cells. */
            List<TreeSet<Integer>> parts(Set<Integer> set) {
                List<TreeSet<Integer>> parts = new ArrayList<>();
                TreeSet<Integer> left = new TreeSet<>(set);
                while (!left.isEmpty()) {
                    TreeSet<Integer> part = new TreeSet<>();
                    ArrayDeque<Integer> open = new ArrayDeque<>();
                    open.add(left.first());
                    while (!open.isEmpty()) {
                        int c = open.remove();
                        if (left.remove(c)) {
                            part.add(c);
                            open.addAll(around(c));
                        }
                    }
                    parts.add(part);
                }
                return parts;
            }

            Set<Integer> withHeights(int least, int most) {
                Set<Integer> found = new HashSet<>();
                for (int c = 0; c < cells(); c++) {
                    if (height[c] >= least && height[c] <= most) {
                        found.add(c);
                    }
                }
                return found;
            }

            int[] levels() {
                int[] levels = new int[cells()];
                Arrays.fill(levels, -1);
                for (int m = 0; m < 100; m++) {
                    for (Set<Integer> land : parts(withHeights(0, m))) {
                        if (hasOutlet(land)) {
                            for (int c : land) {
                                levels[c] = levels[c] < 0 ? m : levels[c];
                            }
                        }
                    }
                }
                return levels;
            }

            boolean hasOutlet(Set<Integer> cells) {
                for (int c : cells) {
                    if (outlet[c]) {
                        return true;
                    }
                }
                return false;
            }

            List<TreeSet<Integer>> lakes() {
                int[] levels = levels();
                List<TreeSet<Integer>> lakes = new ArrayList<>();
                for (int m = 0; m < 100; m++) {
                    Set<Integer> cells = new HashSet<>();
                    for (int c = 0; c < cells(); c++) {
                        if (levels[c] == m && height[c] < m) {
                            cells.add(c);
                        }
                    }
                    lakes.addAll(parts(cells));
                }
                lakes.sort((a, b) -> a.first() - b.first());
                return lakes;
            }

            int[] ranks() {
                int[] levels = levels();
                int[] ranks = new int[cells()];
                for (int start = 0; start < cells(); start++) {
                    // The first cell of rank 0 that a search from the cell meets.
                    Map<Integer, Integer> steps = new HashMap<>();
                    ArrayDeque<Integer> open = new ArrayDeque<>();
                    open.add(start);
                    steps.put(start, 0);
                    while (!open.isEmpty()) {
                        int c = open.remove();
                        if (outlet[c] || isSloping(c, levels)) {
                            ranks[start] = steps.get(c);
                            break;
                        }
                        for (int n : around(c)) {
                            if (levels[n] == levels[c] && !steps.containsKey(n)) {
                                steps.put(n, steps.get(c) + 1);
                                open.add(n);
                            }
                        }
                    }
                }
                return ranks;
            }

            boolean isSloping(int cell, int[] levels) {
                boolean isLess = false;
                for (int n : around(cell)) {
                    isLess |= levels[n] < levels[cell];
                }
                return isLess && !outlet[cell];
            }

            /** The directions among which the lowest one is taken, of each cell. */
            List<List<Integer>> choices() {
                int[] levels = levels();
                int[] ranks = ranks();
                List<List<Integer>> all = new ArrayList<>();
                for (int c = 0; c < cells(); c++) {
                    List<Integer> choices = new ArrayList<>();
                    all.add(choices);
                    int least = 1000;
                    for (int n : around(c)) {
                        least = Math.min(least, levels[n]);
                    }
                    for (int d = 0; d < 4 && !outlet[c]; d++) {
                        int n = toward(c, d);
                        boolean isOne = n >= 0 && (isSloping(c, levels) ? levels[n] == least
                                : levels[n] == levels[c] && ranks[n] == ranks[c] - 1);
                        if (isOne) {
                            choices.add(d);
                        }
                    }
                }
                return all;
            }

            /** The cell to which each cell flows, or -1. */
            int[] targets() {
                List<List<Integer>> choices = choices();
                int[] targets = new int[cells()];
                for (int c = 0; c < cells(); c++) {
                    targets[c] = outlet[c] ? -1 : toward(c, choices.get(c).get(0));
                }
                return targets;
            }

            static List<Integer> path(int[] targets, int cell) {
                List<Integer> path = new ArrayList<>();
                for (int c = cell; c >= 0; c = targets[c]) {
                    path.add(c);
                }
                return path;
            }

            static int mouth(int[] targets, int cell) {
                List<Integer> path = path(targets, cell);
                return path.get(path.size() - 1);
            }

            int inflow(int[] targets, int cell) {
                int sum = 0;
                for (int c = 0; c < cells(); c++) {
                    if (targets[c] == cell) {
                        sum += outflow(targets, c);
                    }
                }
                return sum;
            }

            int amount(int[] targets, int cell) {
                return inflow(targets, cell) + rain[cell];
            }

            int soaked(int[] targets, int cell) {
                return Math.min(soak[cell], amount(targets, cell));
            }

            int outflow(int[] targets, int cell) {
                int amount = amount(targets, cell);
                return amount - Math.min(soak[cell], amount);
            }

            boolean isStream(int[] targets, int cell) {
                return amount(targets, cell) >= threshold;
            }

            List<Integer> feeders(int[] targets, int cell) {
                List<Integer> feeders = new ArrayList<>();
                for (int c = 0; c < cells(); c++) {
                    if (targets[c] == cell && isStream(targets, c)) {
                        feeders.add(c);
                    }
                }
                return feeders;
            }

            int streamOrder(int[] targets, int cell) {
                List<Integer> orders = new ArrayList<>();
                for (int c : feeders(targets, cell)) {
                    orders.add(streamOrder(targets, c));
                }
                if (orders.isEmpty()) {
                    return 1;
                }
                orders.sort((a, b) -> b - a);
                boolean isTwice = orders.size() > 1 && orders.get(0).equals(orders.get(1));
                return orders.get(0) + (isTwice ? 1 : 0);
            }

            List<List<Integer>> reaches() {
                int[] targets = targets();
                List<List<Integer>> reaches = new ArrayList<>();
                for (int c = 0; c < cells(); c++) {
                    if (isStream(targets, c) && feeders(targets, c).size() != 1) {
                        List<Integer> reach = new ArrayList<>();
                        reaches.add(reach);
                        int next = c;
                        do {
                            reach.add(next);
                            next = targets[next];
                        } while (next >= 0 && isStream(targets, next) && feeders(targets, next).size() < 2);
                    }
                }
                return reaches;
            }

            List<TreeSet<Integer>> poolsOf(int number) {
                List<TreeSet<Integer>> pools = parts(withHeights(0, number));
                pools.removeIf(this::hasOutlet);
                return pools;
            }

            List<Depression> depressions() {
                List<Depression> all = new ArrayList<>();
                for (int number = 0; number < 100; number++) {
                    for (TreeSet<Integer> pool : poolsOf(number)) {
                        List<Depression> contained = new ArrayList<>();
                        for (Depression d : all) {
                            boolean isBefore = d.first + d.pools.size() == number;
                            if (isBefore && pool.containsAll(d.last())) {
                                contained.add(d);
                            }
                        }
                        if (contained.size() == 1) {
                            contained.get(0).pools.add(pool);
                        } else {
                            Depression begun = new Depression(number, pool, contained);
                            all.add(begun);
                            contained.forEach(d -> d.parent = begun);
                        }
                    }
                }
                return all;
            }

            /** The best way: the first outlet that a search by cost, cells and directions meets. */
            Way bestWay(int cell) {
                PriorityQueue<Way> open = new PriorityQueue<>();
                Set<String> met = new HashSet<>();
                open.add(new Way(0, "", List.of(cell), height[cell]));
                while (true) {
                    Way way = open.remove();
                    int last = way.cells.get(way.cells.size() - 1);
                    if (outlet[last]) {
                        return way;
                    }
                    for (int d = 0; d < 4 && met.add(last + " " + way.got + " " + d); d++) {
                        int n = toward(last, d);
                        if (n >= 0) {
                            int got = Math.min(way.got, height[n]);
                            List<Integer> cells = new ArrayList<>(way.cells);
                            cells.add(n);
                            open.add(new Way(way.cost + height[n] - got, way.directions + d, cells, got));
                        }
                    }
                }
            }
        }

        static final class Depression {
            final int first;
            final List<TreeSet<Integer>> pools = new ArrayList<>();
            final List<Depression> children;
            Depression parent;

            Depression(int first, TreeSet<Integer> pool, List<Depression> children) {
                this.first = first;
                this.children = children;
                pools.add(pool);
            }

            TreeSet<Integer> last() {
                return pools.get(pools.size() - 1);
            }

            int rim() {
                return first + pools.size();
            }
        }

        record Way(int cost, String directions, List<Integer> cells, int got) implements Comparable<Way> {
            @Override
            public int compareTo(Way other) {
                if (cost != other.cost) {
                    return cost - other.cost;
                }
                int more = cells.size() - other.cells.size();
                return more != 0 ? more : directions.compareTo(other.directions);
            }
        }

        State now = new State(5, 5);
        State saved;
        final ArrayList<State> past = new ArrayList<>();
        String buffer = "";
        int kept = -1;

        int size() {
            return now.cells();
        }

        int anyOutlet(Random random) {
            int c = random.nextInt(size());
            while (!now.outlet[c]) {
                c = random.nextInt(size());
            }
            return c;
        }

        void need(boolean isRight, RuntimeException otherwise) {
            if (!isRight) {
                throw otherwise;
            }
        }

        void needCell(int cell) {
            need(cell >= 0 && cell < size(), new IndexOutOfBoundsException());
        }

        void needFrom(int number, int least, int most) {
            need(number >= least && number <= most, new IllegalArgumentException());
        }

        void change() {
            past.add(new State(now));
            if (past.size() > 8) {
                past.remove(0);
            }
        }

        static long set(Iterable<Integer> cells) {
            long set = 0;
            for (int c : cells) {
                set |= 1L << c;
            }
            return set;
        }

        int resize(int width, int height) {
            needFrom(width, 2, 8);
            needFrom(height, 2, 8);
            change();
            int threshold = now.threshold;
            now = new State(width, height);
            now.threshold = threshold;
            return size();
        }

        int scatter(int seed, int range) {
            needFrom(range, 1, 100);
            change();
            Set<Integer> different = new HashSet<>();
            int z = seed;
            for (int c = 0; c < size(); c++) {
                z = z * 1103515245 + 12345;
                now.height[c] = (z >>> 16) % range;
                different.add(now.height[c]);
            }
            return different.size();
        }

        int setHeight(int cell, int height) {
            needCell(cell);
            needFrom(height, 0, 99);
            change();
            int before = now.height[cell];
            now.height[cell] = height;
            return before;
        }

        int raise(int cell, int other, int amount) {
            needCell(cell);
            needCell(other);
            needFrom(amount, -99, 99);
            change();
            int changed = 0;
            for (int c = 0; c < size(); c++) {
                int x = c % now.width;
                int y = c / now.width;
                boolean isAcross = (x - cell % now.width) * (x - other % now.width) <= 0;
                boolean isDown = (y - cell / now.width) * (y - other / now.width) <= 0;
                if (isAcross && isDown) {
                    int before = now.height[c];
                    now.height[c] = before + amount < 0 ? 0 : before + amount > 99 ? 99 : before + amount;
                    changed += now.height[c] != before ? 1 : 0;
                }
            }
            return changed;
        }

        int setRain(int cell, int rain) {
            needCell(cell);
            needFrom(rain, 0, 9);
            change();
            int before = now.rain[cell];
            now.rain[cell] = rain;
            return before;
        }

        int setSoak(int cell, int soak) {
            needCell(cell);
            needFrom(soak, 0, 9);
            change();
            int before = now.soak[cell];
            now.soak[cell] = soak;
            return before;
        }

        boolean setOutlet(int cell, boolean isOutlet) {
            needCell(cell);
            need(isOutlet || !now.outlet[cell] || now.outlets() > 1, new IllegalStateException());
            change();
            boolean before = now.outlet[cell];
            now.outlet[cell] = isOutlet;
            return before;
        }

        int setThreshold(int threshold) {
            needFrom(threshold, 1, 99);
            change();
            int before = now.threshold;
            now.threshold = threshold;
            return before;
        }

        int cell(int cell, int what) {
            needCell(cell);
            needFrom(what, 0, 3);
            return new int[] {now.height[cell], now.rain[cell], now.soak[cell], now.outlet[cell] ? 1 : 0}[what];
        }

        int count(int what) {
            needFrom(what, 0, 10);
            int[] targets = now.targets();
            int streamCells = 0;
            int flat = 0;
            int[] levels = now.levels();
            for (int c = 0; c < size(); c++) {
                streamCells += now.isStream(targets, c) ? 1 : 0;
                flat += !now.outlet[c] && !now.isSloping(c, levels) ? 1 : 0;
            }
            return new int[] {now.width, now.rows, now.outlets(), now.threshold, now.lakes().size(), streamCells,
                now.reaches().size(), now.depressions().size(), flat, buffer.length(), past.size()}[what];
        }

        int level(int cell) {
            needCell(cell);
            return now.levels()[cell];
        }

        int levelByPools(int cell) {
            needCell(cell);
            for (Depression d : now.depressions()) {
                if (d.parent == null && d.last().contains(cell)) {
                    return d.rim();
                }
            }
            return now.height[cell];
        }

        TreeSet<Integer> needLake(int lake) {
            List<TreeSet<Integer>> lakes = now.lakes();
            need(lake >= 0 && lake < lakes.size(), new IndexOutOfBoundsException());
            return lakes.get(lake);
        }

        int volume(Set<Integer> cells) {
            int[] levels = now.levels();
            int sum = 0;
            for (int c : cells) {
                sum += levels[c] - now.height[c];
            }
            return sum;
        }

        int bottom(TreeSet<Integer> cells) {
            int bottom = cells.first();
            for (int c : cells) {
                bottom = now.height[c] < now.height[bottom] ? c : bottom;
            }
            return bottom;
        }

        int lake(int lake, int what) {
            TreeSet<Integer> cells = needLake(lake);
            needFrom(what, 0, 6);
            int bottom = bottom(cells);
            int behind = -1;
            for (int c : State.path(now.targets(), bottom)) {
                behind = behind < 0 && !cells.contains(c) ? c : behind;
            }
            return new int[] {cells.first(), cells.size(), now.levels()[bottom], volume(cells), bottom,
                now.bestWay(bottom).cost, behind}[what];
        }

        int lakeOf(int cell) {
            needCell(cell);
            List<TreeSet<Integer>> lakes = now.lakes();
            for (int k = 0; k < lakes.size(); k++) {
                if (lakes.get(k).contains(cell)) {
                    return k;
                }
            }
            throw new NoSuchElementException();
        }

        int remedy(int lake) {
            TreeSet<Integer> cells = needLake(lake);
            return volume(cells) <= now.bestWay(bottom(cells)).cost ? 1 : 2;
        }

        int fillLake(int lake) {
            TreeSet<Integer> cells = needLake(lake);
            int volume = volume(cells);
            int[] levels = now.levels();
            change();
            for (int c : cells) {
                now.height[c] = levels[c];
            }
            return volume;
        }

        int carveLake(int lake) {
            TreeSet<Integer> cells = needLake(lake);
            Way way = now.bestWay(bottom(cells));
            change();
            int changed = 0;
            int got = 1000;
            for (int c : way.cells) {
                changed += now.height[c] > got ? 1 : 0;
                got = Math.min(got, now.height[c]);
                now.height[c] = got;
            }
            return changed;
        }

        int carveWay(int cell, int index) {
            needCell(cell);
            Way way = now.bestWay(cell);
            need(index >= 0 && index < way.cells.size(), new NoSuchElementException());
            return way.cells.get(index);
        }

        double meanDepth() {
            int[] levels = now.levels();
            int sum = 0;
            int number = 0;
            for (int c = 0; c < size(); c++) {
                sum += levels[c] - now.height[c];
                number += levels[c] > now.height[c] ? 1 : 0;
            }
            need(number > 0, new ArithmeticException());
            return (double) sum / (double) number;
        }

        int flow(int cell) {
            needCell(cell);
            need(!now.outlet[cell], new NoSuchElementException());
            return now.choices().get(cell).get(0);
        }

        int why(int cell, int what) {
            needCell(cell);
            needFrom(what, 0, 2);
            int reason = now.outlet[cell] ? 0 : now.isSloping(cell, now.levels()) ? 1 : 2;
            return new int[] {reason, now.choices().get(cell).size(), now.ranks()[cell]}[what];
        }

        int route(int cell, int index) {
            needCell(cell);
            List<Integer> path = State.path(now.targets(), cell);
            need(index >= -1 && index < path.size(), new NoSuchElementException());
            return path.get(index == -1 ? path.size() - 1 : index);
        }

        long upstream(int cell) {
            needCell(cell);
            int[] targets = now.targets();
            List<Integer> found = new ArrayList<>();
            for (int c = 0; c < size(); c++) {
                if (State.path(targets, c).contains(cell)) {
                    found.add(c);
                }
            }
            return set(found);
        }

        int water(int cell, int what) {
            needCell(cell);
            needFrom(what, 0, 3);
            int[] targets = now.targets();
            return new int[] {now.inflow(targets, cell), now.amount(targets, cell), now.soaked(targets, cell),
                now.outflow(targets, cell)}[what];
        }

        int account(int what) {
            needFrom(what, 0, 5);
            int[] targets = now.targets();
            int[] levels = now.levels();
            int[] sums = new int[6];
            for (int c = 0; c < size(); c++) {
                sums[0] += now.rain[c];
                sums[1] += now.outlet[c] ? now.outflow(targets, c) : 0;
                sums[2] += now.soaked(targets, c);
                sums[3] += levels[c] - now.height[c];
                sums[4] += now.height[c];
                sums[5] = Math.max(sums[5], now.amount(targets, c));
            }
            need(sums[0] == sums[1] + sums[2], new Error0());
            return sums[what];
        }

        int order(int cell) {
            needCell(cell);
            int[] targets = now.targets();
            return now.isStream(targets, cell) ? now.streamOrder(targets, cell) : 0;
        }

        int reach(int reach, int what) {
            List<List<Integer>> reaches = now.reaches();
            need(reach >= 0 && reach < reaches.size(), new IndexOutOfBoundsException());
            needFrom(what, 0, 4);
            int[] targets = now.targets();
            List<Integer> cells = reaches.get(reach);
            int first = cells.get(0);
            int last = cells.get(cells.size() - 1);
            int behind = -1;
            for (int k = 0; k < reaches.size(); k++) {
                behind = reaches.get(k).get(0) == targets[last] ? k : behind;
            }
            return new int[] {first, last, cells.size(), now.streamOrder(targets, first), behind}[what];
        }

        int reachOf(int cell) {
            needCell(cell);
            List<List<Integer>> reaches = now.reaches();
            for (int k = 0; k < reaches.size(); k++) {
                if (reaches.get(k).contains(cell)) {
                    return k;
                }
            }
            throw new NoSuchElementException();
        }

        int basin(int outlet, int what) {
            needCell(outlet);
            need(now.outlet[outlet], new IllegalStateException());
            needFrom(what, 0, 3);
            int[] targets = now.targets();
            int[] numbers = {0, 0, now.outflow(targets, outlet), 0};
            for (int c = 0; c < size(); c++) {
                if (State.mouth(targets, c) == outlet) {
                    numbers[0]++;
                    numbers[1] += now.rain[c];
                    numbers[3] = Math.max(numbers[3], State.path(targets, c).size() - 1);
                }
            }
            return numbers[what];
        }

        int divides() {
            int[] targets = now.targets();
            int ends = 0;
            for (int c = 0; c < size(); c++) {
                for (int n : now.around(c)) {
                    ends += State.mouth(targets, c) != State.mouth(targets, n) ? 1 : 0;
                }
            }
            return ends / 2;
        }

        int depression(int depression, int what) {
            List<Depression> all = now.depressions();
            need(depression >= 0 && depression < all.size(), new IndexOutOfBoundsException());
            needFrom(what, 0, 7);
            Depression d = all.get(depression);
            int capacity = 0;
            for (int c : d.last()) {
                capacity += d.rim() - now.height[c];
            }
            int depth = 0;
            for (Depression up = d.parent; up != null; up = up.parent) {
                depth++;
            }
            return new int[] {d.first, d.rim() - 1, d.last().size(), capacity, d.pools.get(0).first(),
                d.parent == null ? -1 : all.indexOf(d.parent), d.children.size(), depth}[what];
        }

        int depressionAt(int cell, int number) {
            needCell(cell);
            needFrom(number, 0, 99);
            List<Depression> all = now.depressions();
            for (int k = 0; k < all.size(); k++) {
                Depression d = all.get(k);
                int index = number - d.first;
                if (index >= 0 && index < d.pools.size() && d.pools.get(index).contains(cell)) {
                    return k;
                }
            }
            throw new NoSuchElementException();
        }

        long pools(int number) {
            needFrom(number, 0, 99);
            long all = 0;
            for (TreeSet<Integer> pool : now.poolsOf(number)) {
                all |= set(pool);
            }
            return all;
        }

        int contour(int number, int what) {
            needFrom(number, 1, 99);
            needFrom(what, 0, 3);
            Set<Integer> high = now.withHeights(number, 99);
            int ends = 0;
            for (int c : high) {
                for (int n : now.around(c)) {
                    ends += high.contains(n) ? 0 : 1;
                }
            }
            int hollows = 0;
            for (Set<Integer> group : now.parts(now.withHeights(0, number - 1))) {
                boolean isInside = true;
                for (int c : group) {
                    isInside &= now.around(c).size() == 4;
                }
                hollows += isInside ? 1 : 0;
            }
            return new int[] {high.size(), now.parts(high).size(), ends, hollows}[what];
        }

        List<Integer> line(int from, int to) {
            int x = from % now.width;
            int y = from / now.width;
            int dx = to % now.width - x;
            int dy = to / now.width - y;
            int n = Math.max(Math.abs(dx), Math.abs(dy));
            List<Integer> cells = new ArrayList<>();
            for (int k = 0; k <= n; k++) {
                int cx = n == 0 ? x : x + (int) Math.floor((2.0 * k * dx + n) / (2.0 * n));
                int cy = n == 0 ? y : y + (int) Math.floor((2.0 * k * dy + n) / (2.0 * n));
                cells.add(cy * now.width + cx);
            }
            return cells;
        }

        int section(int from, int to, int what) {
            needCell(from);
            needCell(to);
            needFrom(what, 0, 5);
            List<Integer> line = line(from, to);
            int[] targets = now.targets();
            int[] numbers = {line.size(), 0, 0, -1, 1000, 0};
            for (int k = 0; k < line.size(); k++) {
                int h = now.height[line.get(k)];
                int before = k == 0 ? h : now.height[line.get(k - 1)];
                numbers[1] += h > before ? h - before : 0;
                numbers[2] += h < before ? before - h : 0;
                numbers[3] = Math.max(numbers[3], h);
                numbers[4] = Math.min(numbers[4], h);
                numbers[5] += now.isStream(targets, line.get(k)) ? 1 : 0;
            }
            return numbers[what];
        }

        int sectionCell(int from, int to, int index) {
            needCell(from);
            needCell(to);
            List<Integer> line = line(from, to);
            need(index >= 0 && index < line.size(), new NoSuchElementException());
            return line.get(index);
        }

        boolean sees(int from, int to, int eye) {
            needCell(from);
            needCell(to);
            needFrom(eye, 0, 99);
            List<Integer> line = line(from, to);
            int n = line.size() - 1;
            int e = now.height[from] + eye;
            int t = now.height[to];
            for (int k = 1; k < n; k++) {
                if (n * (now.height[line.get(k)] - e) > k * (t - e)) {
                    return false;
                }
            }
            return true;
        }

        long viewshed(int from, int eye) {
            needCell(from);
            needFrom(eye, 0, 99);
            List<Integer> seen = new ArrayList<>();
            for (int c = 0; c < size(); c++) {
                if (sees(from, c, eye)) {
                    seen.add(c);
                }
            }
            return set(seen);
        }

        int depthsIf(int cell, int height) {
            needCell(cell);
            needFrom(height, 0, 99);
            Model other = new Model();
            other.now = new State(now);
            other.now.height[cell] = height;
            return other.account(3);
        }

        int leavingIf(int cell, int soak) {
            needCell(cell);
            needFrom(soak, 0, 9);
            Model other = new Model();
            other.now = new State(now);
            other.now.soak[cell] = soak;
            return other.account(1);
        }

        int mouthIf(int cell, int outlet) {
            needCell(cell);
            needCell(outlet);
            Model other = new Model();
            other.now = new State(now);
            other.now.outlet[outlet] = true;
            return other.route(cell, -1);
        }

        int append(char character) {
            needFrom(character, 33, 126);
            need(buffer.length() < 60, new IllegalStateException());
            buffer += character;
            return buffer.length();
        }

        int execute() {
            String text = buffer;
            buffer = "";
            int error = errorIn(text);
            if (error >= 0) {
                kept = error;
                throw new IllegalArgumentException();
            }
            State next = new State(now);
            String[] commands = text.split(";");
            for (String command : commands) {
                String[] parts = command.substring(1).split("[=+-]");
                int cell = Integer.parseInt(parts[0]);
                switch (command.charAt(0)) {
                    case 'h' -> next.height[cell] = Integer.parseInt(parts[1]);
                    case 'r' -> next.rain[cell] = Integer.parseInt(parts[1]);
                    case 's' -> next.soak[cell] = Integer.parseInt(parts[1]);
                    default -> {
                        next.outlet[cell] = command.endsWith("+");
                        need(next.outlets() > 0, new IllegalStateException());
                    }
                }
            }
            change();
            now = next;
            return commands.length;
        }

        /**
         * The error position, or -1: the longest beginning of the text that can be continued to a text tells the first
         * character that is not allowed; a cell that does not exist is looked for in each such beginning.
         */
        int errorIn(String text) {
            String number = "(0|[1-9][0-9]?)";
            String command = "(h" + number + "=" + number + "|[rs]" + number + "=[0-9]|o" + number + "[+-])";
            String begun = "(|h|h" + number + "|h" + number + "=|h" + number + "=" + number + "|[rs]|[rs]" + number
                    + "|[rs]" + number + "=|[rs]" + number + "=[0-9]|o|o" + number + "|o" + number + "[+-])";
            for (int end = 0; end <= text.length(); end++) {
                String part = text.substring(0, end);
                // The last number of a cell that is whole before the character at 'end' is looked at.
                java.util.regex.Matcher cell = java.util.regex.Pattern.compile("(^|;)[hrso]" + number + "$").matcher(part);
                boolean isWhole = end == text.length() || !Character.isDigit(text.charAt(end));
                if (cell.find()) {
                    String digits = cell.group(2);
                    boolean isEnded = digits.length() == 2 || digits.equals("0") || isWhole;
                    if (isEnded && Integer.parseInt(digits) >= size()) {
                        return cell.start(2);
                    }
                }
                boolean isBeginning = part.matches("(" + command + ";)*" + begun);
                if (!isBeginning) {
                    return end - 1;
                }
            }
            return text.matches(command + "(;" + command + ")*") ? -1 : text.length();
        }

        int errorPosition() {
            need(kept >= 0, new NoSuchElementException());
            return kept;
        }

        char map(int index) {
            StringBuilder map = new StringBuilder();
            List<List<Integer>> choices = now.choices();
            for (int c = 0; c < size(); c++) {
                map.append(c > 0 && c % now.width == 0 ? "/" : "");
                map.append(now.outlet[c] ? 'o' : "^>v<".charAt(choices.get(c).get(0)));
            }
            need(index >= 0 && index < map.length(), new IndexOutOfBoundsException());
            return map.charAt(index);
        }

        int undo() {
            need(!past.isEmpty(), new IllegalStateException());
            now = past.remove(past.size() - 1);
            return past.size();
        }

        int save() {
            saved = new State(now);
            return size();
        }

        int restore() {
            need(saved != null, new IllegalStateException());
            change();
            now = new State(saved);
            return size();
        }
    }

    /** An answer of the model that contradicts itself; the program never throws it. */
    private static final class Error0 extends RuntimeException {
        private static final long serialVersionUID = 1L;
    }
}
