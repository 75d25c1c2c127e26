/** Promises 1 to 9: each sentence about the board and its ways that names an edge. */
public final class BoardEdgesTest {
    private static final Due DUE = new Due("BoardEdgesTest");
    private static final int MIN = Integer.MIN_VALUE;
    private static final int MAX = Integer.MAX_VALUE;

    private static void is(String call, long got, long want) {
        DUE.is(call, got, want);
    }

    public static void main(String[] args) {
        newObject();
        objectsAreApart();
        sides();
        beginTellsTheIslandsAhead();
        cellNumbers();
        cellRanges();
        islandNumbers();
        mostIslands();
        anotherNumber();
        removeIsland();
        neighbours();
        noIslandBetween();
        noWayAroundTheEdge();
        longestWays();
        order();
        wayRanges();
        crossings();
        mostCrossings();
        newWays();
        at();
        atRowAndColumn();
        lacks();
        waysAndCapsOfAnIsland();
        groups();
        islandInfoRanges();
        between();
        countRanges();
        countsOfTheEmptyBoard();
        countsOfTheFullBoard();
        solved();
        broken();
        DUE.end();
    }

    private static void newObject() {
        DUE.by("Creates a board of 7 columns and 7 rows without islands.");
        IslandBridges x = new IslandBridges();
        is("count(0)", x.count(0), 7);
        is("count(1)", x.count(1), 7);
        is("count(2)", x.count(2), 0);
        is("at(48), the last cell", x.at(48), 0);
        is("at(49)", x.at(49), -1);
        is("begin(7, 7) tells no islands", x.begin(7, 7), 0);
        IslandBridges y = new IslandBridges();
        is("the text is empty", y.clearText(), 0);
        is("the history is empty", y.undo(), -2);
        is("island(48, 1)", y.island(48, 1), 0);
    }

    private static void objectsAreApart() {
        IslandBridges x = Boards.of("2.2/.../2.2");
        IslandBridges y = new IslandBridges();
        x.build(0);
        x.type('1');
        is("y: count(0)", y.count(0), 7);
        is("y: count(2)", y.count(2), 0);
        is("y: count(12)", y.count(12), 0);
        is("y: count(13)", y.count(13), 0);
        y.begin(12, 12);
        is("x: count(0)", x.count(0), 3);
        is("x: at(1)", x.at(1), 11);
    }

    private static void sides() {
        DUE.by("The board has W columns and H rows (3 to 12 each, initially 7 and 7)");
        int[] outside = {2, 13, 0, 1, -1, -3, 14, 256 + 7, MIN, MAX};
        for (int side : outside) {
            IslandBridges x = new IslandBridges();
            is("begin(" + side + ", 7)", x.begin(side, 7), -1);
            is("begin(7, " + side + ")", x.begin(7, side), -1);
            is("begin(3, " + side + ")", x.begin(3, side), -1);
            is("begin(" + side + ", 12)", x.begin(side, 12), -1);
            is("count(0)", x.count(0), 7);
            is("count(1)", x.count(1), 7);
            is("count(12)", x.count(12), 0);
        }
        for (int columns = 3; columns <= 12; columns++) {
            for (int rows = 3; rows <= 12; rows++) {
                IslandBridges x = new IslandBridges();
                is("begin(" + columns + ", " + rows + ")", x.begin(columns, rows), 0);
                is("count(0)", x.count(0), columns);
                is("count(1)", x.count(1), rows);
                is("at(last)", x.at(columns * rows - 1), 0);
                is("at(behind the last)", x.at(columns * rows), -1);
            }
        }
    }

    private static void beginTellsTheIslandsAhead() {
        DUE.by("Returns the number of islands that there were; INVALID_ARGUMENT if an argument is out of range.");
        IslandBridges x = new IslandBridges();
        is("begin(3, 3) without islands", x.begin(3, 3), 0);
        x.island(4, 1);
        is("begin(3, 3) with one", x.begin(3, 3), 1);
        is("at(4): the board is empty", x.at(4), 0);
        is("begin(3, 3) again", x.begin(3, 3), 0);
        IslandBridges full = Boards.full();
        is("begin(12, 3) with 24", full.begin(12, 3), 24);
        is("count(2)", full.count(2), 0);
        is("count(3)", full.count(3), 0);
        is("undo()", full.undo() >= 0 ? 1 : 0, 1);
        is("begin(2, 3) with 24", full.begin(2, 3), -1);
        is("count(2)", full.count(2), 24);
    }

    private static void cellNumbers() {
        DUE.by("the cell in the column x and the row y has the number y * W + x");
        IslandBridges wide = new IslandBridges();
        wide.begin(12, 3);
        wide.island(2 * 12 + 5, 3);
        wide.island(5, 4);
        is("a column of 12 x 3", wide.between(5, 29), 0);
        is("its cell between", wide.way(0, 4), 1);
        wide.build(0);
        is("at(1 * 12 + 5)", wide.at(17), 21);
        IslandBridges high = new IslandBridges();
        high.begin(3, 12);
        high.island(11 * 3, 3);
        high.island(11 * 3 + 2, 3);
        high.build(0);
        is("at(11 * 3 + 1)", high.at(34), 11);
        is("a row of 3 x 12", high.between(33, 35), 0);
    }

    private static void cellRanges() {
        DUE.by("If there is no cell or way with a certain number, this is INVALID_ARGUMENT.");
        int[][] sizes = {{3, 3}, {12, 12}, {12, 3}, {3, 12}, {7, 7}};
        for (int[] size : sizes) {
            int cells = size[0] * size[1];
            int[] outside = {-1, cells, cells + 1, -cells, MIN, MAX};
            for (int cell : outside) {
                IslandBridges x = new IslandBridges();
                x.begin(size[0], size[1]);
                x.island(0, 1);
                noCell(x, cell);
                is("count(2)", x.count(2), 1);
                is("count(12)", x.count(12), 2);
            }
            int[] inside = {0, 1, cells - 2, cells - 1};
            for (int cell : inside) {
                IslandBridges x = new IslandBridges();
                x.begin(size[0], size[1]);
                aCell(x, cell);
            }
        }
    }

    private static void noCell(IslandBridges x, int cell) {
        is("island(" + cell + ", 1)", x.island(cell, 1), -1);
        is("removeIsland(" + cell + ")", x.removeIsland(cell), -1);
        is("at(" + cell + ")", x.at(cell), -1);
        is("islandInfo(" + cell + ", 0)", x.islandInfo(cell, 0), -1);
        is("between(" + cell + ", 0)", x.between(cell, 0), -1);
        is("between(0, " + cell + ")", x.between(0, cell), -1);
        is("between(" + cell + ", " + cell + ")", x.between(cell, cell), -1);
    }

    private static void aCell(IslandBridges x, int cell) {
        is("at(" + cell + ")", x.at(cell), 0);
        is("islandInfo(" + cell + ", 0)", x.islandInfo(cell, 0), -4);
        is("removeIsland(" + cell + ")", x.removeIsland(cell), -4);
        is("between(" + cell + ", " + cell + ")", x.between(cell, cell), -4);
        is("island(" + cell + ", 8)", x.island(cell, 8), 0);
        is("at(" + cell + ")", x.at(cell), 8);
        is("islandInfo(" + cell + ", 0)", x.islandInfo(cell, 0), 8);
        is("removeIsland(" + cell + ")", x.removeIsland(cell), 8);
        is("at(" + cell + ")", x.at(cell), 0);
    }

    private static void islandNumbers() {
        DUE.by("A cell is empty or an island; an island has a number, 1 to 8.");
        int[] outside = {0, 9, -1, 10, MIN, MAX, 256 + 1};
        for (int number : outside) {
            IslandBridges x = new IslandBridges();
            is("island(3, " + number + ")", x.island(3, number), -1);
            is("at(3)", x.at(3), 0);
            x.island(3, 5);
            is("island(3, " + number + ") on an island", x.island(3, number), -1);
            is("at(3)", x.at(3), 5);
        }
        for (int number = 1; number <= 8; number++) {
            IslandBridges x = new IslandBridges();
            is("island(3, " + number + ")", x.island(3, number), 0);
            is("at(3)", x.at(3), number);
            is("count(9)", x.count(9), number);
            is("removeIsland(3)", x.removeIsland(3), number);
        }
    }

    private static void mostIslands() {
        DUE.by("LIMIT_REACHED if there would be 25 islands.");
        IslandBridges x = new IslandBridges();
        x.begin(12, 12);
        for (int island = 0; island < 24; island++) {
            is("island no. " + (island + 1), x.island(island * 6, 1) >= 0 ? 1 : 0, 1);
        }
        is("the 25th", x.island(143, 1), -3);
        is("count(2)", x.count(2), 24);
        is("at(143)", x.at(143), 0);
        is("another number is no 25th", x.island(0, 2), x.count(3));
        is("at(0)", x.at(0), 2);
        is("the same number is no 25th", x.island(0, 2), x.count(3));
        is("removeIsland(6)", x.removeIsland(6), 1);
        is("the 24th again", x.island(143, 1), x.count(3));
        is("the one that was removed", x.island(6, 1), -3);
        is("count(2)", x.count(2), 24);
    }

    private static void anotherNumber() {
        DUE.by("Makes a cell an island, or gives the island there another number (also the same one).");
        IslandBridges x = Boards.of("2.2/.../2.2");
        x.build(0);
        x.cap(3, 0);
        is("island(0, 2), the same", x.island(0, 2), 4);
        is("all bridges are taken away", x.count(4), 0);
        is("all caps are 2", x.way(3, 3), 2);
        is("it is a change", x.count(12), 4);
        is("undo()", x.undo(), 3);
        is("the bridge is there again", x.way(0, 2), 1);
        is("the cap is there again", x.way(3, 3), 0);
        is("island(0, 3), another", x.island(0, 3), 4);
        is("at(0)", x.at(0), 3);
        is("count(2)", x.count(2), 4);
        is("count(4)", x.count(4), 0);
        is("way(3, 3)", x.way(3, 3), 2);
    }

    private static void removeIsland() {
        DUE.by("Returns the number that it had; INVALID_ARGUMENT; NOT_FOUND if there is no island.");
        IslandBridges x = Boards.of("1.2/.3./4.5");
        int[] cells = {0, 2, 4, 6, 8};
        for (int place = 0; place < 5; place++) {
            is("removeIsland(" + cells[place] + ")", x.removeIsland(cells[place]), place + 1);
            is("count(2)", x.count(2), 4 - place);
            is("again", x.removeIsland(cells[place]), -4);
        }
        is("count(3)", x.count(3), 0);
        IslandBridges y = Boards.of("111/.../...");
        is("removeIsland(1)", y.removeIsland(1), 1);
        is("the way over it", y.between(0, 2), 0);
        is("is the only one", y.count(3), 1);
        IslandBridges z = Boards.of("2.2/.../2.2");
        z.build(0);
        is("removeIsland(8)", z.removeIsland(8), 2);
        is("its removal takes bridges of others away", z.count(4), 0);
    }

    private static void neighbours() {
        DUE.by("(also if they are next to each other)");
        IslandBridges x = Boards.of("11./1../...");
        is("count(3)", x.count(3), 2);
        is("between(0, 1)", x.between(0, 1), 0);
        is("between(0, 3)", x.between(0, 3), 1);
        is("way(0, 4)", x.way(0, 4), 0);
        is("way(1, 4)", x.way(1, 4), 0);
        is("build(0)", x.build(0), 1);
        is("at(0)", x.at(0), 1);
        is("at(2): no bridge behind", x.at(2), 0);
        is("islandInfo(1, 1)", x.islandInfo(1, 1), 1);
    }

    private static void noIslandBetween() {
        DUE.by("There is a way between two islands in the same row or the same column if there is no island between them");
        IslandBridges x = Boards.of("1.1.1/...../1...1");
        is("between(0, 2)", x.between(0, 2), 0);
        is("between(2, 4)", x.between(2, 4), 2);
        is("between(0, 4)", x.between(0, 4), -4);
        is("between(10, 14)", x.between(10, 14), 4);
        is("between(2, 10): neither row nor column", x.between(2, 10), -4);
        is("count(3)", x.count(3), 5);
        IslandBridges y = Boards.of("1../1../1../...");
        is("between(0, 6)", y.between(0, 6), -4);
        is("count(3)", y.count(3), 2);
    }

    private static void noWayAroundTheEdge() {
        IslandBridges x = new IslandBridges();
        is("island(6, 1), a row's end", x.island(6, 1), 0);
        is("island(7, 1), the next one's start", x.island(7, 1), 0);
        is("between(6, 7)", x.between(6, 7), -4);
        is("island(48, 1), the end of all", x.island(48, 1), 1);
        is("island(42, 1)", x.island(42, 1), 3);
        is("between(6, 48)", x.between(6, 48), 0);
        is("between(7, 42)", x.between(7, 42), 1);
        is("between(42, 48)", x.between(42, 48), 2);
    }

    private static void longestWays() {
        IslandBridges x = new IslandBridges();
        x.begin(12, 12);
        x.island(0, 2);
        is("island(11, 2)", x.island(11, 2), 1);
        is("island(132, 2)", x.island(132, 2), 2);
        is("island(143, 2)", x.island(143, 2), 4);
        for (int way = 0; way < 4; way++) {
            is("way(" + way + ", 4)", x.way(way, 4), 10);
        }
        x.build(0);
        x.build(1);
        is("at(1)", x.at(1), 11);
        is("at(10)", x.at(10), 11);
        is("at(12)", x.at(12), 21);
        is("at(120)", x.at(120), 21);
        is("at(13)", x.at(13), 0);
        is("at(23)", x.at(23), 0);
    }

    private static void order() {
        DUE.by("of two with the same first island the one to the right ahead of the one downward.");
        IslandBridges x = Boards.of("2.2/.../2.2");
        int[][] want = {{0, 2}, {0, 6}, {2, 8}, {6, 8}};
        for (int way = 0; way < 4; way++) {
            is("way(" + way + ", 0)", x.way(way, 0), want[way][0]);
            is("way(" + way + ", 1)", x.way(way, 1), want[way][1]);
        }
        IslandBridges y = Boards.of("2..1/1.../....");
        is("to the right, though farther", y.way(0, 1), 3);
        is("downward, though nearer", y.way(1, 1), 4);
    }

    private static void wayRanges() {
        DUE.by("If there is no cell or way with a certain number, this is INVALID_ARGUMENT.");
        IslandBridges[] boards = {new IslandBridges(), Boards.of("1../.../..."), Boards.of("1.1/.../1.."), Boards.full()};
        int[] ways = {0, 0, 2, 38};
        for (int place = 0; place < boards.length; place++) {
            IslandBridges x = boards[place];
            is("count(3)", x.count(3), ways[place]);
            int[] outside = {-1, ways[place], ways[place] + 1, 48, 64, MIN, MAX};
            for (int way : outside) {
                noWay(x, way);
            }
            for (int way = 0; way < ways[place]; way++) {
                is("way(" + way + ", 2)", x.way(way, 2), 0);
                is("between its islands", x.between(x.way(way, 0), x.way(way, 1)), way);
            }
        }
        IslandBridges x = Boards.of("1.1/.../1..");
        int[] outside = {-1, 8, 9, MIN, MAX};
        for (int what : outside) {
            is("way(0, " + what + ")", x.way(0, what), -1);
            is("way(2, " + what + ")", x.way(2, what), -1);
        }
        int[] want = {0, 6, 0, 2, 1, 0, 0, 0};
        for (int what = 0; what <= 7; what++) {
            is("way(1, " + what + ")", x.way(1, what), want[what]);
        }
    }

    private static void noWay(IslandBridges x, int way) {
        for (int what = 0; what <= 7; what++) {
            is("way(" + way + ", " + what + ")", x.way(way, what), -1);
        }
        is("build(" + way + ")", x.build(way), -1);
        is("take(" + way + ")", x.take(way), -1);
        is("cap(" + way + ", 2)", x.cap(way, 2), -1);
        is("inAll(" + way + ")", x.inAll(way), -1);
    }

    private static void crossings() {
        DUE.by("Two ways cross if some empty cell is between the islands of both.");
        IslandBridges x = Boards.of(".1./1.1/.1.");
        is("they cross", x.way(0, 5), 1);
        is("and the other one too", x.way(1, 5), 1);
        IslandBridges island = Boards.of(".1./111/.1.");
        for (int way = 0; way < 4; way++) {
            is("not at an island: way(" + way + ", 5)", island.way(way, 5), 0);
        }
        IslandBridges corner = Boards.of("1.1/.../1..");
        is("not at the island of both", corner.way(0, 5), 0);
        IslandBridges end = Boards.of("1.1.1/...../..1..");
        is("not at the end of one", end.way(end.between(2, 12), 5), 0);
        IslandBridges beside = Boards.of("1..1/..1./1..1/..1.");
        is("beside the end of one", beside.way(beside.between(0, 3), 5), 0);
        is("behind it", beside.way(beside.between(8, 11), 5), 1);
        IslandBridges parallel = Boards.of("1.1/1.1/...");
        is("rows do not cross each other", parallel.way(parallel.between(0, 2), 5), 0);
        is("nor do columns", parallel.way(parallel.between(0, 3), 5), 0);
    }

    private static void mostCrossings() {
        IslandBridges x = Boards.of(".1111111111./1..........1/.1111111111.");
        int row = x.between(12, 23);
        is("ways that cross it", x.way(row, 5), 10);
        is("those with bridges", x.way(row, 6), 0);
        for (int column = 1; column <= 10; column++) {
            int way = x.between(column, 24 + column);
            is("way(" + way + ", 5)", x.way(way, 5), 1);
            is("build(" + way + ")", x.build(way), 1);
            is("those with bridges", x.way(row, 6), column);
        }
        is("at(13)", x.at(13), 21);
        is("way(row, 7)", x.way(row, 7), 3);
        IslandBridges two = Boards.of(".2./1.1/.2.");
        two.build(0);
        two.build(0);
        is("two bridges of one way count once", two.way(1, 6), 1);
        two.take(0);
        is("one is left", two.way(1, 6), 1);
        two.take(0);
        is("none is left", two.way(1, 6), 0);
    }

    private static void newWays() {
        DUE.by("with a new way it has 0 bridges and the cap 2. When islands are added, removed or get another number, all "
            + "bridges are taken away, and all caps are 2.");
        for (int kind = 0; kind < 7; kind++) {
            IslandBridges x = Boards.of("3.3/.../3.3");
            x.build(0);
            x.build(0);
            x.build(3);
            x.cap(1, 0);
            x.cap(2, 1);
            switch (kind) {
                case 0: x.island(4, 1); break;
                case 1: x.removeIsland(0); break;
                case 2: x.island(8, 4); break;
                case 3: x.island(8, 3); break;
                case 4: Boards.write(x, "3.3/.../3.3"); x.load(); break;
                case 5: x.begin(3, 3); Boards.write(x, "3.3/.../3.3"); x.load(); break;
                default: x.make(9, 2); break;
            }
            is("kind " + kind + ": there are ways", x.count(3) > 0 ? 1 : 0, 1);
            for (int way = 0; way < x.count(3); way++) {
                is("kind " + kind + ": way(" + way + ", 2)", x.way(way, 2), 0);
                is("kind " + kind + ": way(" + way + ", 3)", x.way(way, 3), 2);
            }
        }
    }

    private static void at() {
        DUE.by("Returns the number of an island; 0 if it is empty and without bridges; 10 plus the bridges of a way along "
            + "the row over it, 20 plus those of a way along the column; INVALID_ARGUMENT.");
        IslandBridges x = Boards.of("4..4/..../..../4..4");
        is("at(1) without bridges", x.at(1), 0);
        is("at(4) without bridges", x.at(4), 0);
        x.build(0);
        x.build(1);
        int[] want = {4, 11, 11, 4, 21, 0, 0, 0, 21, 0, 0, 0, 4, 0, 0, 4};
        for (int cell = 0; cell < 16; cell++) {
            is("at(" + cell + ")", x.at(cell), want[cell]);
        }
        x.build(0);
        x.build(1);
        is("at(2) with two", x.at(2), 12);
        is("at(8) with two", x.at(8), 22);
        x.take(0);
        x.take(0);
        is("at(2) with none again", x.at(2), 0);
    }

    private static void atRowAndColumn() {
        IslandBridges x = Boards.of(".2./2.2/.2.");
        is("at(4)", x.at(4), 0);
        x.build(0);
        is("along the column", x.at(4), 21);
        x.build(0);
        is("along the column, two", x.at(4), 22);
        x.take(0);
        x.take(0);
        x.build(1);
        is("along the row", x.at(4), 11);
        x.build(1);
        is("along the row, two", x.at(4), 12);
    }

    private static void lacks() {
        DUE.by("What it lacks is its number minus its bridges.");
        IslandBridges x = Boards.of("2.8/.../...");
        is("islandInfo(0, 2)", x.islandInfo(0, 2), 2);
        is("islandInfo(2, 2)", x.islandInfo(2, 2), 8);
        x.build(0);
        is("islandInfo(0, 2)", x.islandInfo(0, 2), 1);
        x.build(0);
        is("complete: it lacks 0", x.islandInfo(0, 2), 0);
        is("islandInfo(2, 2)", x.islandInfo(2, 2), 6);
        is("complete islands", x.count(5), 1);
    }

    private static void waysAndCapsOfAnIsland() {
        DUE.by("3: its ways; 4: the sum of their caps; 5: its group");
        IslandBridges x = Boards.of(".1./181/.1.");
        is("the most ways", x.islandInfo(4, 3), 4);
        is("the greatest sum", x.islandInfo(4, 4), 8);
        is("islandInfo(1, 3)", x.islandInfo(1, 3), 1);
        for (int way = 0; way < 4; way++) {
            x.cap(way, 0);
        }
        is("the least sum", x.islandInfo(4, 4), 0);
        is("its ways stay", x.islandInfo(4, 3), 4);
        IslandBridges alone = Boards.of("1../.../...");
        int[] want = {1, 0, 1, 0, 0, 0};
        for (int what = 0; what <= 5; what++) {
            is("alone: islandInfo(0, " + what + ")", alone.islandInfo(0, what), want[what]);
        }
    }

    private static void groups() {
        DUE.by("Groups are the sets of islands that are joined by ways with bridges, numbered from 0 by their lowest cells; an "
            + "island without bridges is a group alone.");
        IslandBridges x = Boards.of("1.2.1/...../1.2.1");
        int[] cells = {0, 2, 4, 10, 12, 14};
        for (int place = 0; place < 6; place++) {
            is("without bridges: islandInfo(" + cells[place] + ", 5)", x.islandInfo(cells[place], 5), place);
        }
        is("count(6)", x.count(6), 6);
        x.build(x.between(12, 14));
        x.build(x.between(4, 14));
        is("islandInfo(4, 5): 14 is complete", x.islandInfo(4, 5), 2);
        x.build(x.between(2, 12));
        x.build(x.between(2, 4));
        int[] want = {0, 1, 1, 2, 1, 1};
        for (int place = 0; place < 6; place++) {
            is("islandInfo(" + cells[place] + ", 5)", x.islandInfo(cells[place], 5), want[place]);
        }
        is("count(6)", x.count(6), 3);
        x.take(x.between(2, 12));
        is("parted: islandInfo(12, 5)", x.islandInfo(12, 5), 3);
        is("parted: islandInfo(14, 5)", x.islandInfo(14, 5), 3);
        is("parted: count(6)", x.count(6), 4);
    }

    private static void islandInfoRanges() {
        DUE.by("Returns the property; INVALID_ARGUMENT if an argument is out of range; NOT_FOUND if there is no island.");
        IslandBridges x = Boards.of("1.1/.../...");
        int[] outside = {-1, 6, 7, MIN, MAX};
        for (int what : outside) {
            is("islandInfo(0, " + what + ")", x.islandInfo(0, what), -1);
            is("islandInfo(1, " + what + ")", x.islandInfo(1, what), -1);
            is("islandInfo(9, " + what + ")", x.islandInfo(9, what), -1);
        }
        for (int what = 0; what <= 5; what++) {
            is("islandInfo(1, " + what + ")", x.islandInfo(1, what), -4);
            is("islandInfo(9, " + what + ")", x.islandInfo(9, what), -1);
            is("islandInfo(-1, " + what + ")", x.islandInfo(-1, what), -1);
        }
    }

    private static void between() {
        DUE.by("Returns the number of the way; INVALID_ARGUMENT; NOT_FOUND if there is none.");
        IslandBridges x = Boards.of("1.1/.../1..");
        is("between(0, 2)", x.between(0, 2), 0);
        is("between(2, 0)", x.between(2, 0), 0);
        is("between(0, 6)", x.between(0, 6), 1);
        is("between(6, 0)", x.between(6, 0), 1);
        is("an island and itself", x.between(0, 0), -4);
        is("an island and an empty cell", x.between(0, 1), -4);
        is("an empty cell and an island", x.between(1, 2), -4);
        is("two empty cells", x.between(3, 4), -4);
        is("an empty cell and itself", x.between(8, 8), -4);
        is("two islands without a way", x.between(2, 6), -4);
        is("the empty board", new IslandBridges().between(0, 48), -4);
        is("the empty board", new IslandBridges().between(0, 49), -1);
    }

    private static void countRanges() {
        DUE.by("Returns the number; INVALID_ARGUMENT if what is out of range.");
        int[] outside = {-1, 14, 15, MIN, MAX};
        for (int what : outside) {
            is("count(" + what + ")", new IslandBridges().count(what), -1);
            is("full: count(" + what + ")", Boards.full().count(what), -1);
        }
    }

    private static void countsOfTheEmptyBoard() {
        IslandBridges x = new IslandBridges();
        x.begin(3, 12);
        int[] want = {3, 12, 0, 0, 0, 0, 0, 0, 0, 0, 0, 0, 1, 0};
        for (int what = 0; what < 14; what++) {
            is("count(" + what + ")", x.count(what), want[what]);
        }
    }

    private static void countsOfTheFullBoard() {
        IslandBridges x = Boards.full();
        for (int length = 0; length < 160; length++) {
            x.type('.');
        }
        int[] want = {12, 12, 24, 38, 0, 0, 24, 0, 1, 192, 0, 0, 4, 160};
        for (int what = 0; what < 14; what++) {
            is("count(" + what + ")", x.count(what), want[what]);
        }
        for (int way = 0; way < 38; way++) {
            is("build(" + way + ")", x.build(way), 1);
            is("build(" + way + ")", x.build(way), 2);
        }
        is("the most bridges", x.count(4), 76);
        is("those with four ways are complete", x.count(5), 9);
        is("one group", x.count(6), 1);
        is("clear()", x.clear(), 76);
    }

    private static void solved() {
        DUE.by("The board is solved if there is an island, all islands are complete, and there is one group.");
        is("no island", new IslandBridges().count(7), 0);
        IslandBridges pair = Boards.of("2.2/.../...");
        is("not complete", pair.count(7), 0);
        pair.build(0);
        is("one group, but not complete", pair.count(7), 0);
        is("count(6)", pair.count(6), 1);
        pair.build(0);
        is("solved", pair.count(7), 1);
        pair.take(0);
        is("not any more", pair.count(7), 0);
        IslandBridges two = Boards.of("1.1/.../1.1");
        two.build(0);
        two.build(3);
        is("all complete", two.count(5), 4);
        is("but two groups", two.count(7), 0);
        IslandBridges one = Boards.of("1.3/.../..1");
        one.build(0);
        one.build(1);
        is("one group", one.count(6), 1);
        is("but one island lacks", one.count(7), 0);
    }

    private static void broken() {
        DUE.by("The board is broken if for some island the sum of the caps of its ways is less than its number, or its bridges "
            + "are more than its number.");
        is("no island", new IslandBridges().count(8), 0);
        is("an island alone", Boards.of("1../.../...").count(8), 1);
        is("the sum is its number", Boards.of("2.2/.../...").count(8), 0);
        is("the sum is 1 less", Boards.of("2.3/.../...").count(8), 1);
        is("the first island's sum is 1 less", Boards.of("3.2/.../...").count(8), 1);
        is("all the sums are the numbers", Boards.of("2.4/.../..2").count(8), 0);
        IslandBridges x = Boards.of("2.2/.../...");
        x.cap(0, 1);
        is("a cap of 1", x.count(8), 1);
        x.cap(0, 2);
        is("a cap of 2", x.count(8), 0);
        x.build(0);
        x.build(0);
        is("as many bridges as its number", x.count(8), 0);
        is("the numbers 8 of four ways", Boards.of(".2./282/.2.").count(8), 0);
    }
}
