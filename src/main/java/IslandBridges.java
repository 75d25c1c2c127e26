// A puzzle of islands that are joined by bridges. The document ../shared/DOC.md says what each call
// promises; this file keeps to the part of Java that ../shared/LANGUAGE.md leaves.
public final class IslandBridges {
    public static final int INVALID_ARGUMENT = -1;
    public static final int NOT_POSSIBLE = -2;
    public static final int LIMIT_REACHED = -3;
    public static final int NOT_FOUND = -4;

    private static final int LEAST_SIDE = 3;
    private static final int MOST_SIDE = 12;
    private static final int FIRST_SIDE = 7;
    private static final int MOST_CELLS = 144;
    private static final int MOST_ISLANDS = 24;
    // Each island begins at most one way to the right and one downward.
    private static final int MOST_WAYS = 48;
    private static final int MOST_NUMBER = 8;
    private static final int MOST_BRIDGES = 2;
    private static final int MOST_STATES = 4;
    private static final int MOST_CHARACTERS = 160;
    private static final int FIRST_CHARACTER = 32;
    private static final int LAST_CHARACTER = 126;
    private static final int MOST_STEPS = 200;
    private static final int MOST_SEARCHED_WAYS = 14;
    private static final int MOST_SOLUTIONS = 50;
    // There are no more: each of the searched ways has 0, 1 or 2 bridges, and 3 to the power of 14 is this.
    private static final int ALL_SOLUTIONS = 4782969;
    private static final int LAST_SEED = 65535;
    private static final int NONE = -1;

    private final State state;
    private final Layout layout;
    private final Sums sums;
    private final Groups groups;
    private final Reasoner reasoner;
    private final Search search;
    private final Maker maker;
    private final History history;
    private final Text text;

    public IslandBridges() {
        state = new State();
        layout = new Layout();
        sums = new Sums(state, layout);
        groups = new Groups(layout);
        reasoner = new Reasoner(state, layout, sums, groups);
        search = new Search(state, layout, groups);
        maker = new Maker();
        history = new History();
        text = new Text();
    }

    // ---- the board

    public int begin(int columns, int rows) {
        if (!isSide(columns) || !isSide(rows)) {
            return INVALID_ARGUMENT;
        }
        int before = layout.islands;
        history.record(state);
        state.empty(columns, rows);
        renewWays();
        return before;
    }

    public int island(int cell, int number) {
        if (!isCell(cell) || number < 1 || number > MOST_NUMBER) {
            return INVALID_ARGUMENT;
        }
        if (valueAt(state.numbers, cell) == 0 && layout.islands >= MOST_ISLANDS) {
            return LIMIT_REACHED;
        }
        history.record(state);
        put(state.numbers, cell, number);
        renewWays();
        return layout.ways;
    }

    public int removeIsland(int cell) {
        if (!isCell(cell)) {
            return INVALID_ARGUMENT;
        }
        int number = valueAt(state.numbers, cell);
        if (number == 0) {
            return NOT_FOUND;
        }
        history.record(state);
        put(state.numbers, cell, 0);
        renewWays();
        return number;
    }

    public int at(int cell) {
        if (!isCell(cell)) {
            return INVALID_ARGUMENT;
        }
        int number = valueAt(state.numbers, cell);
        if (number > 0) {
            return number;
        }
        for (int way = 0; way < layout.ways; way++) {
            int bridges = valueAt(state.bridges, way);
            if (bridges > 0 && layout.isOver(way, cell)) {
                return (layout.isAlongRow(way) ? 10 : 20) + bridges;
            }
        }
        return 0;
    }

    public int islandInfo(int cell, int what) {
        if (!isCell(cell) || what < 0 || what > 5) {
            return INVALID_ARGUMENT;
        }
        int island = layout.islandOn(cell);
        if (island == NONE) {
            return NOT_FOUND;
        }
        sums.read();
        switch (what) {
            case 0: return valueAt(state.numbers, cell);
            case 1: return valueAt(sums.bridges, island);
            case 2: return valueAt(sums.lacks, island);
            case 3: return valueAt(layout.waysOf, island);
            case 4: return valueAt(sums.caps, island);
            default:
                groups.read(state.bridges);
                return groups.numberOf(island);
        }
    }

    public int way(int way, int what) {
        if (!isWay(way)) {
            return INVALID_ARGUMENT;
        }
        switch (what) {
            case 0: return layout.firstCell(way);
            case 1: return layout.secondCell(way);
            case 2: return valueAt(state.bridges, way);
            case 3: return valueAt(state.caps, way);
            case 4: return layout.cellsBetween(way);
            case 5: return Long.bitCount(layout.crossingsOf(way));
            case 6: return Long.bitCount(layout.crossingsOf(way) & layout.waysWith(state.bridges));
            case 7: return reasonAgainst(way);
            default: return INVALID_ARGUMENT;
        }
    }

    public int between(int a, int b) {
        if (!isCell(a) || !isCell(b)) {
            return INVALID_ARGUMENT;
        }
        int first = Math.min(a, b);
        int second = Math.max(a, b);
        for (int way = 0; way < layout.ways; way++) {
            if (layout.firstCell(way) == first && layout.secondCell(way) == second) {
                return way;
            }
        }
        return NOT_FOUND;
    }

    public int count(int what) {
        switch (what) {
            case 0: return state.columns;
            case 1: return state.rows;
            case 2: return layout.islands;
            case 3: return layout.ways;
            case 4: return allBridges();
            case 5: return completeIslands();
            case 6: return groupsInAll();
            case 7: return isSolved() ? 1 : 0;
            case 8: return isBroken() ? 1 : 0;
            case 9: return allNumbers();
            case 10: return state.grade;
            case 11: return state.stepsMade;
            case 12: return history.size;
            case 13: return text.length;
            default: return INVALID_ARGUMENT;
        }
    }

    // ---- building

    public int build(int way) {
        if (!isWay(way)) {
            return INVALID_ARGUMENT;
        }
        if (reasonAgainst(way) != 0) {
            return NOT_POSSIBLE;
        }
        history.record(state);
        int bridges = valueAt(state.bridges, way) + 1;
        put(state.bridges, way, bridges);
        return bridges;
    }

    public int take(int way) {
        if (!isWay(way)) {
            return INVALID_ARGUMENT;
        }
        int bridges = valueAt(state.bridges, way);
        if (bridges == 0) {
            return NOT_POSSIBLE;
        }
        history.record(state);
        put(state.bridges, way, bridges - 1);
        return bridges - 1;
    }

    public int cap(int way, int value) {
        if (!isWay(way) || value < 0 || value > MOST_BRIDGES) {
            return INVALID_ARGUMENT;
        }
        if (valueAt(state.bridges, way) > value) {
            return NOT_POSSIBLE;
        }
        history.record(state);
        int before = valueAt(state.caps, way);
        put(state.caps, way, value);
        return before;
    }

    public int clear() {
        int before = allBridges();
        history.record(state);
        state.takeAllBridges();
        return before;
    }

    // ---- steps

    public int step() {
        int found = reasoner.find();
        if (found < 0) {
            return found;
        }
        history.record(state);
        reasoner.carryOut(found);
        return found;
    }

    public int hint() {
        return reasoner.find();
    }

    public int steps(int most) {
        if (most < 1 || most > MOST_STEPS) {
            return INVALID_ARGUMENT;
        }
        history.record(state);
        for (int made = 0; made < most; made++) {
            int found = reasoner.find();
            if (found < 0) {
                return made;
            }
            reasoner.carryOut(found);
        }
        return most;
    }

    // ---- solutions

    public int solutions() {
        if (layout.islands == 0) {
            return NOT_POSSIBLE;
        }
        if (layout.ways > MOST_SEARCHED_WAYS) {
            return LIMIT_REACHED;
        }
        search.run(MOST_SOLUTIONS, NONE);
        return search.found;
    }

    public int inAll(int way) {
        if (!isWay(way)) {
            return INVALID_ARGUMENT;
        }
        if (layout.ways > MOST_SEARCHED_WAYS) {
            return LIMIT_REACHED;
        }
        search.run(ALL_SOLUTIONS, way);
        return search.found == 0 || search.differs ? NOT_FOUND : search.common;
    }

    public int make(int seed, int islands) {
        if (seed < 0 || seed > LAST_SEED || islands < 2 || islands > MOST_ISLANDS) {
            return INVALID_ARGUMENT;
        }
        history.record(state);
        maker.run(state.columns, state.rows, seed, islands);
        maker.giveNumbersTo(state);
        renewWays();
        return layout.islands;
    }

    public int undo() {
        if (history.size == 0) {
            return NOT_POSSIBLE;
        }
        history.restore(state);
        layout.read(state);
        return history.size;
    }

    // ---- texts

    public int type(int character) {
        if (character < FIRST_CHARACTER || character > LAST_CHARACTER) {
            return INVALID_ARGUMENT;
        }
        if (text.length >= MOST_CHARACTERS) {
            return LIMIT_REACHED;
        }
        text.append(character);
        return text.length;
    }

    public int clearText() {
        int before = text.length;
        text.length = 0;
        return before;
    }

    public int fault(int what) {
        if (what != 0 && what != 1) {
            return INVALID_ARGUMENT;
        }
        text.check();
        if (text.faultReason == 0) {
            return NOT_FOUND;
        }
        return what == 0 ? text.faultIndex : text.faultReason;
    }

    public int load() {
        text.check();
        if (text.faultReason != 0) {
            return NOT_POSSIBLE;
        }
        history.record(state);
        state.empty(text.columns, text.rows);
        text.giveNumbersTo(state);
        renewWays();
        return layout.islands;
    }

    // ---- what several calls need

    /** A change of islands takes all bridges away, whatever has changed. */
    private void renewWays() {
        state.takeAllBridges();
        layout.read(state);
    }

    private static boolean isSide(int length) {
        return length >= LEAST_SIDE && length <= MOST_SIDE;
    }

    private boolean isCell(int cell) {
        return cell >= 0 && cell < state.cells();
    }

    private boolean isWay(int way) {
        return way >= 0 && way < layout.ways;
    }

    /** Why no bridge can be built on a way; 0 if one can. */
    private int reasonAgainst(int way) {
        int bridges = valueAt(state.bridges, way);
        if (bridges >= MOST_BRIDGES) {
            return 1;
        }
        if (valueAt(state.caps, way) == bridges) {
            return 2;
        }
        if ((layout.crossingsOf(way) & layout.waysWith(state.bridges)) != 0) {
            return 3;
        }
        sums.read();
        return sums.lesserLack(way) <= 0 ? 4 : 0;
    }

    private int allBridges() {
        int all = 0;
        for (int way = 0; way < layout.ways; way++) {
            all += valueAt(state.bridges, way);
        }
        return all;
    }

    private int allNumbers() {
        int all = 0;
        for (int cell = 0; cell < MOST_CELLS; cell++) {
            all += valueAt(state.numbers, cell);
        }
        return all;
    }

    private int completeIslands() {
        sums.read();
        int complete = 0;
        for (int island = 0; island < layout.islands; island++) {
            if (valueAt(sums.lacks, island) == 0) {
                complete++;
            }
        }
        return complete;
    }

    private int groupsInAll() {
        groups.read(state.bridges);
        return groups.total();
    }

    private boolean isSolved() {
        return layout.islands > 0 && completeIslands() == layout.islands && groupsInAll() == 1;
    }

    private boolean isBroken() {
        sums.read();
        return sums.areBroken();
    }

    // The machine throws at an index that a row does not have: these three test it first.

    private static int valueAt(int[] row, int place) {
        return place >= 0 && place < row.length ? row[place] : 0;
    }

    private static void put(int[] row, int place, int value) {
        if (place >= 0 && place < row.length) {
            row[place] = value;
        }
    }

    private static void add(int[] row, int place, int value) {
        if (place >= 0 && place < row.length) {
            row[place] += value;
        }
    }

    /** All that a change records. */
    private static final class State {
        /** The numbers of the islands, by cells; 0 for an empty cell. */
        final int[] numbers = new int[MOST_CELLS];
        final int[] bridges = new int[MOST_WAYS];
        final int[] caps = new int[MOST_WAYS];
        int columns;
        int rows;
        int grade;
        int stepsMade;

        State() {
            empty(FIRST_SIDE, FIRST_SIDE);
        }

        int cells() {
            return columns * rows;
        }

        void empty(int newColumns, int newRows) {
            columns = newColumns;
            rows = newRows;
            for (int cell = 0; cell < MOST_CELLS; cell++) {
                put(numbers, cell, 0);
            }
            takeAllBridges();
        }

        void takeAllBridges() {
            for (int way = 0; way < MOST_WAYS; way++) {
                put(bridges, way, 0);
                put(caps, way, MOST_BRIDGES);
            }
            grade = 0;
            stepsMade = 0;
        }

        void becomeLike(State other) {
            columns = other.columns;
            rows = other.rows;
            grade = other.grade;
            stepsMade = other.stepsMade;
            System.arraycopy(other.numbers, 0, numbers, 0, MOST_CELLS);
            System.arraycopy(other.bridges, 0, bridges, 0, MOST_WAYS);
            System.arraycopy(other.caps, 0, caps, 0, MOST_WAYS);
        }
    }

    /** What follows from the islands' places: their order by cells, the ways, and which ways cross. */
    private static final class Layout {
        private final int[] cellOf = new int[MOST_ISLANDS];
        /** By cells, the island there plus 1; 0 for an empty cell. */
        private final int[] islandAfter = new int[MOST_CELLS];
        private final int[] firstOf = new int[MOST_WAYS];
        private final int[] secondOf = new int[MOST_WAYS];
        private final int[] firstCellOf = new int[MOST_WAYS];
        private final int[] secondCellOf = new int[MOST_WAYS];
        /** How far it is from a cell of the way to the next one: 1 along a row, W along a column. */
        private final int[] strideOf = new int[MOST_WAYS];
        final int[] waysOf = new int[MOST_ISLANDS];
        /** For each way one bit for each way that crosses it. */
        private final long[] crossings = new long[MOST_WAYS];
        int islands;
        int ways;

        void read(State state) {
            readIslands(state);
            readWays(state.columns, state.cells());
            readCrossings(state.columns);
        }

        int cellOf(int island) {
            return valueAt(cellOf, island);
        }

        int islandOn(int cell) {
            return valueAt(islandAfter, cell) - 1;
        }

        int first(int way) {
            return valueAt(firstOf, way);
        }

        int second(int way) {
            return valueAt(secondOf, way);
        }

        int firstCell(int way) {
            return valueAt(firstCellOf, way);
        }

        int secondCell(int way) {
            return valueAt(secondCellOf, way);
        }

        boolean isAlongRow(int way) {
            return valueAt(strideOf, way) == 1;
        }

        int cellsBetween(int way) {
            int stride = valueAt(strideOf, way);
            return stride == 0 ? 0 : (secondCell(way) - firstCell(way)) / stride - 1;
        }

        /** Whether a cell is between the two islands of a way. */
        boolean isOver(int way, int cell) {
            int stride = valueAt(strideOf, way);
            int first = valueAt(firstCellOf, way);
            int second = valueAt(secondCellOf, way);
            return stride != 0 && cell > first && cell < second && (cell - first) % stride == 0;
        }

        long crossingsOf(int way) {
            return way >= 0 && way < crossings.length ? crossings[way] : 0L;
        }

        /** One bit for each way that has bridges. */
        long waysWith(int[] bridges) {
            long built = 0L;
            for (int way = 0; way < ways; way++) {
                if (valueAt(bridges, way) > 0) {
                    built |= 1L << way;
                }
            }
            return built;
        }

        private void readIslands(State state) {
            islands = 0;
            int cells = state.cells();
            for (int cell = 0; cell < MOST_CELLS; cell++) {
                boolean isIsland = cell < cells && valueAt(state.numbers, cell) > 0 && islands < MOST_ISLANDS;
                if (isIsland) {
                    put(cellOf, islands, cell);
                    put(waysOf, islands, 0);
                    islands++;
                }
                put(islandAfter, cell, isIsland ? islands : 0);
            }
        }

        private void readWays(int columns, int cells) {
            ways = 0;
            if (columns == 0) {
                return;
            }
            for (int island = 0; island < islands; island++) {
                int cell = cellOf(island);
                addWay(island, nextIsland(cell, 1, cell - cell % columns + columns), 1);
                addWay(island, nextIsland(cell, columns, cells), columns);
            }
        }

        /** The next island behind a cell, ahead of the cell at the end. */
        private int nextIsland(int cell, int stride, int end) {
            for (int distance = 1; distance < MOST_SIDE; distance++) {
                int next = cell + distance * stride;
                if (next >= end) {
                    return NONE;
                }
                if (islandOn(next) != NONE) {
                    return islandOn(next);
                }
            }
            return NONE;
        }

        private void addWay(int first, int second, int stride) {
            if (second == NONE || ways >= MOST_WAYS) {
                return;
            }
            put(firstOf, ways, first);
            put(secondOf, ways, second);
            put(firstCellOf, ways, cellOf(first));
            put(secondCellOf, ways, cellOf(second));
            put(strideOf, ways, stride);
            add(waysOf, first, 1);
            add(waysOf, second, 1);
            ways++;
        }

        private void readCrossings(int columns) {
            for (int way = 0; way < ways && way < crossings.length; way++) {
                long crossing = 0L;
                for (int other = 0; other < ways; other++) {
                    if (doCross(way, other, columns)) {
                        crossing |= 1L << other;
                    }
                }
                crossings[way] = crossing;
            }
        }

        private boolean doCross(int way, int other, int columns) {
            if (isAlongRow(way) == isAlongRow(other) || columns == 0) {
                return false;
            }
            int alongRow = firstCell(isAlongRow(way) ? way : other);
            int alongColumn = firstCell(isAlongRow(way) ? other : way);
            int meeting = alongRow - alongRow % columns + alongColumn % columns;
            return isOver(way, meeting) && isOver(other, meeting);
        }
    }

    /** For each island the sums over its ways. */
    private static final class Sums {
        private final State state;
        private final Layout layout;
        private final int[] numbers = new int[MOST_ISLANDS];
        final int[] bridges = new int[MOST_ISLANDS];
        final int[] caps = new int[MOST_ISLANDS];
        final int[] lacks = new int[MOST_ISLANDS];

        Sums(State state, Layout layout) {
            this.state = state;
            this.layout = layout;
        }

        void read() {
            for (int island = 0; island < MOST_ISLANDS; island++) {
                put(bridges, island, 0);
                put(caps, island, 0);
            }
            for (int way = 0; way < layout.ways; way++) {
                addWay(layout.first(way), way);
                addWay(layout.second(way), way);
            }
            for (int island = 0; island < layout.islands; island++) {
                int number = valueAt(state.numbers, layout.cellOf(island));
                put(numbers, island, number);
                put(lacks, island, number - valueAt(bridges, island));
            }
        }

        private void addWay(int island, int way) {
            add(bridges, island, valueAt(state.bridges, way));
            add(caps, island, valueAt(state.caps, way));
        }

        boolean areBroken() {
            for (int island = 0; island < layout.islands; island++) {
                if (valueAt(caps, island) < valueAt(numbers, island) || valueAt(lacks, island) < 0) {
                    return true;
                }
            }
            return false;
        }

        int lesserLack(int way) {
            return Math.min(valueAt(lacks, layout.first(way)), valueAt(lacks, layout.second(way)));
        }

        /** The bridges that a way must have because the other ways of an island cannot have enough. */
        int leastBridges(int way) {
            return Math.max(leastBridgesFor(layout.first(way), way), leastBridgesFor(layout.second(way), way));
        }

        private int leastBridgesFor(int island, int way) {
            return valueAt(numbers, island) - (valueAt(caps, island) - valueAt(state.caps, way));
        }
    }

    /** Which islands are joined. */
    private static final class Groups {
        private final Layout layout;
        /** For each island the first one of its group. */
        private final int[] leaders = new int[MOST_ISLANDS];

        Groups(Layout layout) {
            this.layout = layout;
        }

        void read(int[] bridges) {
            for (int island = 0; island < MOST_ISLANDS; island++) {
                put(leaders, island, island);
            }
            for (int way = 0; way < layout.ways; way++) {
                if (valueAt(bridges, way) > 0) {
                    join(leader(layout.first(way)), leader(layout.second(way)));
                }
            }
        }

        int leader(int island) {
            return valueAt(leaders, island);
        }

        private void join(int one, int other) {
            int lower = Math.min(one, other);
            int higher = Math.max(one, other);
            for (int island = 0; island < layout.islands; island++) {
                if (valueAt(leaders, island) == higher) {
                    put(leaders, island, lower);
                }
            }
        }

        int total() {
            return leadersAheadOf(layout.islands);
        }

        int numberOf(int island) {
            return leadersAheadOf(leader(island));
        }

        private int leadersAheadOf(int end) {
            int number = 0;
            for (int island = 0; island < end; island++) {
                if (valueAt(leaders, island) == island) {
                    number++;
                }
            }
            return number;
        }
    }

    /** Finds and carries out the steps of reasoning. */
    private static final class Reasoner {
        private static final int RULES = 4;

        private final State state;
        private final Layout layout;
        private final Sums sums;
        private final Groups groups;
        private long built;

        Reasoner(State state, Layout layout, Sums sums, Groups groups) {
            this.state = state;
            this.layout = layout;
            this.sums = sums;
            this.groups = groups;
        }

        /** 100 times the rule of the next step plus its way, or the error that there is none. */
        int find() {
            sums.read();
            if (sums.areBroken()) {
                return NOT_POSSIBLE;
            }
            groups.read(state.bridges);
            built = layout.waysWith(state.bridges);
            for (int rule = 1; rule <= RULES; rule++) {
                for (int way = 0; way < layout.ways; way++) {
                    if (isPossible(rule, way)) {
                        return 100 * rule + way;
                    }
                }
            }
            return NOT_FOUND;
        }

        /** Carries out what find() has just found: the sums are still those that it has read. */
        void carryOut(int found) {
            int rule = found / 100;
            int way = found % 100;
            switch (rule) {
                case 1:
                    put(state.caps, way, 0);
                    break;
                case 2:
                    put(state.caps, way, valueAt(state.bridges, way) + sums.lesserLack(way));
                    break;
                case 3:
                    put(state.bridges, way, sums.leastBridges(way));
                    break;
                default:
                    add(state.caps, way, -1);
                    break;
            }
            state.grade = Math.max(state.grade, rule);
            state.stepsMade++;
        }

        private boolean isPossible(int rule, int way) {
            int bridges = valueAt(state.bridges, way);
            int cap = valueAt(state.caps, way);
            switch (rule) {
                case 1: return bridges == 0 && cap > 0 && (layout.crossingsOf(way) & built) != 0;
                case 2: return cap > bridges + sums.lesserLack(way);
                case 3: return bridges < sums.leastBridges(way);
                default: return cap > bridges && wouldCutOff(way, cap - bridges);
            }
        }

        /** Whether so many more bridges would make a complete group that leaves some island out. */
        private boolean wouldCutOff(int way, int more) {
            int first = layout.first(way);
            int second = layout.second(way);
            boolean someOutside = false;
            for (int island = 0; island < layout.islands; island++) {
                int leader = groups.leader(island);
                int got = island == first || island == second ? more : 0;
                if (leader != groups.leader(first) && leader != groups.leader(second)) {
                    someOutside = true;
                } else if (valueAt(sums.lacks, island) != got) {
                    return false;
                }
            }
            return someOutside;
        }
    }

    /** Goes through the solutions: decides way after way, and leaves what no longer fits an island. */
    private static final class Search {
        private final State state;
        private final Layout layout;
        private final Groups groups;
        private final int[] bridges = new int[MOST_WAYS];
        private final int[] lacks = new int[MOST_ISLANDS];
        /** For each island the most bridges that its undecided ways can bring. */
        private final int[] open = new int[MOST_ISLANDS];
        private long built;
        private int most;
        private int watched;
        int found;
        /** The bridges of the watched way in the first solution. */
        int common;
        boolean differs;

        Search(State state, Layout layout, Groups groups) {
            this.state = state;
            this.layout = layout;
            this.groups = groups;
        }

        /** Finds at most so many solutions, and ends when two differ on the watched way. */
        void run(int mostSolutions, int watchedWay) {
            most = mostSolutions;
            watched = watchedWay;
            found = 0;
            common = 0;
            differs = false;
            built = 0L;
            for (int way = 0; way < MOST_WAYS; way++) {
                put(bridges, way, 0);
            }
            if (allCanFit()) {
                decide(this, 0);
            }
        }

        /** Sets all islands to no bridges, and tells whether each has ways enough. */
        private boolean allCanFit() {
            boolean fit = true;
            for (int island = 0; island < layout.islands; island++) {
                put(lacks, island, valueAt(state.numbers, layout.cellOf(island)));
                put(open, island, MOST_BRIDGES * valueAt(layout.waysOf, island));
                fit = fit && canFit(island);
            }
            return fit;
        }

        private static void decide(Search search, int way) {
            if (way >= search.layout.ways || way >= MOST_SEARCHED_WAYS) {
                search.noteIfJoined();
                return;
            }
            int mostHere = (search.layout.crossingsOf(way) & search.built) != 0 ? 0 : MOST_BRIDGES;
            search.addOpen(way, -MOST_BRIDGES);
            for (int value = 0; value <= mostHere && !search.isOver(); value++) {
                search.setBridges(way, value);
                if (search.canFit(search.layout.first(way)) && search.canFit(search.layout.second(way))) {
                    decide(search, way + 1);
                }
            }
            search.setBridges(way, 0);
            search.addOpen(way, MOST_BRIDGES);
        }

        private boolean isOver() {
            return found >= most || differs;
        }

        private boolean canFit(int island) {
            int lack = valueAt(lacks, island);
            return lack >= 0 && lack <= valueAt(open, island);
        }

        private void addOpen(int way, int value) {
            add(open, layout.first(way), value);
            add(open, layout.second(way), value);
        }

        private void setBridges(int way, int value) {
            int less = valueAt(bridges, way) - value;
            add(lacks, layout.first(way), less);
            add(lacks, layout.second(way), less);
            put(bridges, way, value);
            built = value > 0 ? built | 1L << way : built & ~(1L << way);
        }

        /** When all ways are decided, all islands that still fit are complete. */
        private void noteIfJoined() {
            groups.read(bridges);
            if (groups.total() != 1) {
                return;
            }
            int value = valueAt(bridges, watched);
            if (found == 0) {
                common = value;
            }
            differs = value != common;
            found++;
        }
    }

    /** Makes a board from a seed. */
    private static final class Maker {
        private static final int TRIES = 200;

        /** By cells, 1 if there is an island or a bridge. */
        private final int[] taken = new int[MOST_CELLS];
        /** By cells, the bridges of the island there. */
        private final int[] numbers = new int[MOST_CELLS];
        /** The cells of the islands, ascending. */
        private final int[] cellOf = new int[MOST_ISLANDS];
        private int columns;
        private int rows;
        private int islands;
        private int z;

        void run(int boardColumns, int boardRows, int seed, int wanted) {
            columns = boardColumns;
            rows = boardRows;
            islands = 0;
            z = seed;
            for (int cell = 0; cell < MOST_CELLS; cell++) {
                put(taken, cell, 0);
                put(numbers, cell, 0);
            }
            addIsland(draw(columns * rows));
            for (int tried = 0; tried < TRIES && islands < wanted; tried++) {
                tryIsland();
            }
        }

        void giveNumbersTo(State state) {
            for (int cell = 0; cell < MOST_CELLS; cell++) {
                put(state.numbers, cell, valueAt(numbers, cell));
            }
            if (islands == 1) {
                put(state.numbers, valueAt(cellOf, 0), 1);
            }
        }

        private int draw(int below) {
            z = (75 * z + 74) % 65537;
            return below > 0 ? z % below : 0;
        }

        private void tryIsland() {
            int from = valueAt(cellOf, draw(islands));
            int direction = draw(4);
            int distance = draw(4) + 2;
            int bridges = draw(2) + 1;
            int sign = direction < 2 ? 1 : -1;
            boolean alongRow = direction % 2 == 0;
            if (!isOnBoard(from, alongRow, sign * distance)) {
                return;
            }
            int stride = sign * (alongRow ? 1 : columns);
            for (int far = 1; far <= distance; far++) {
                if (valueAt(taken, from + far * stride) != 0) {
                    return;
                }
            }
            for (int far = 1; far < distance; far++) {
                put(taken, from + far * stride, 1);
            }
            int cell = from + distance * stride;
            addIsland(cell);
            add(numbers, from, bridges);
            add(numbers, cell, bridges);
        }

        private boolean isOnBoard(int from, boolean alongRow, int shift) {
            if (columns == 0) {
                return false;
            }
            int place = (alongRow ? from % columns : from / columns) + shift;
            return place >= 0 && place < (alongRow ? columns : rows);
        }

        private void addIsland(int cell) {
            if (islands >= MOST_ISLANDS) {
                return;
            }
            int place = islands;
            for (int behind = islands; behind > 0 && valueAt(cellOf, behind - 1) > cell; behind--) {
                put(cellOf, behind, valueAt(cellOf, behind - 1));
                place = behind - 1;
            }
            put(cellOf, place, cell);
            put(taken, cell, 1);
            islands++;
        }
    }

    /** The states ahead of the latest changes, the oldest one first. */
    private static final class History {
        private final State[] states = new State[MOST_STATES];
        int size;

        History() {
            for (int place = 0; place < states.length; place++) {
                states[place] = new State();
            }
        }

        void record(State state) {
            if (size >= MOST_STATES) {
                dropOldest();
            }
            State kept = stateAt(size);
            if (kept != null) {
                kept.becomeLike(state);
                size++;
            }
        }

        void restore(State state) {
            State kept = stateAt(size - 1);
            if (kept != null) {
                state.becomeLike(kept);
                size--;
            }
        }

        private State stateAt(int place) {
            return place >= 0 && place < states.length ? states[place] : null;
        }

        private void putState(int place, State state) {
            if (place >= 0 && place < states.length) {
                states[place] = state;
            }
        }

        /** The oldest state goes to the end, where its rows are used again. */
        private void dropOldest() {
            State oldest = stateAt(0);
            int last = states.length - 1;
            for (int place = 0; place < last; place++) {
                putState(place, stateAt(place + 1));
            }
            putState(last, oldest);
            size--;
        }
    }

    /** The text, and what is read from it up to its fault. */
    private static final class Text {
        private static final int TOO_STRANGE = 1;
        private static final int WRONG_LENGTH = 2;
        private static final int TOO_MANY_ROWS = 3;
        private static final int TOO_MANY_ISLANDS = 4;
        private static final int NOT_ENDED = 5;

        private final int[] characters = new int[MOST_CHARACTERS];
        int length;
        int columns;
        /** The rows that have begun. */
        int rows;
        /** The characters of the last one of them. */
        private int inRow;
        private int islands;
        int faultIndex;
        int faultReason;

        void append(int character) {
            put(characters, length, character);
            length++;
        }

        void check() {
            columns = 0;
            rows = 1;
            inRow = 0;
            islands = 0;
            for (int index = 0; index < length; index++) {
                int character = valueAt(characters, index);
                faultIndex = index;
                faultReason = reasonAgainstNext(character);
                if (faultReason != 0) {
                    return;
                }
                readNext(character);
            }
            faultIndex = length;
            faultReason = rows < LEAST_SIDE || inRow < columns ? NOT_ENDED : 0;
        }

        /** As all rows are as long as the first one, the cells follow one another without gaps. */
        void giveNumbersTo(State state) {
            int cell = 0;
            for (int index = 0; index < length; index++) {
                int character = valueAt(characters, index);
                if (character != '/') {
                    put(state.numbers, cell, isDigit(character) ? character - '0' : 0);
                    cell++;
                }
            }
        }

        private int reasonAgainstNext(int character) {
            if (character == '/') {
                if (inRow < (rows == 1 ? LEAST_SIDE : columns)) {
                    return WRONG_LENGTH;
                }
                return rows >= MOST_SIDE ? TOO_MANY_ROWS : 0;
            }
            if (character != '.' && !isDigit(character)) {
                return TOO_STRANGE;
            }
            if (inRow >= (rows == 1 ? MOST_SIDE : columns)) {
                return WRONG_LENGTH;
            }
            return isDigit(character) && islands >= MOST_ISLANDS ? TOO_MANY_ISLANDS : 0;
        }

        private void readNext(int character) {
            if (character == '/') {
                columns = rows == 1 ? inRow : columns;
                rows++;
                inRow = 0;
                return;
            }
            inRow++;
            if (isDigit(character)) {
                islands++;
            }
        }

        private static boolean isDigit(int character) {
            return character >= '1' && character <= '8';
        }
    }
}
