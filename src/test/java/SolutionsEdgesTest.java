/** Promises 17 to 19: each sentence about solutions and boards that are made that names an edge. */
public final class SolutionsEdgesTest {
    private static final Due DUE = new Due("SolutionsEdgesTest");
    private static final int MIN = Integer.MIN_VALUE;
    private static final int MAX = Integer.MAX_VALUE;
    private static final String FOURTEEN_WAYS = "2.32/.143/223./2..2";
    private static final String FIFTEEN_WAYS = "2421/4641/243.";
    /** Columns, rows, seed and islands, and the board: reckoned by hand and by a program of its own. */
    private static final String[][] MADE = {
        {"3 3 0 2", "..1/.../..1"},
        {"3 3 0 24", "2.3/.../1.2"},
        {"3 3 1 2", ".../1.1/..."},
        {"3 3 1 24", ".../1.1/..."},
        {"3 3 65534 2", ".2./.../.2."},
        {"3 3 65534 24", ".2./.../.2."},
        {"3 3 65535 2", ".../.1./..."},
        {"3 3 65535 24", ".../.1./..."},
        {"7 7 0 2", "......./....1../......./....1../......./......./......."},
        {"7 7 0 24", "......./.1..4.3/......./.2..3../......./.1....2/......."},
        {"7 7 1 2", "..2..../......./..2..../......./......./......./......."},
        {"7 7 1 24", "1.3.2.2/......./3.5.6.6/......./..2...5/......./3.1.1.2"},
        {"7 7 65534 2", "......./......./.1....1/......./......./......./......."},
        {"7 7 65534 24", "2..3..3/3.1..../.1....5/6.6..3./....2../2....1./..3.5.4"},
        {"7 7 65535 2", "......./......./......./....1../......./......./....1.."},
        {"7 7 65535 24", ".4.4..1/....2.1/...1.../.5..6.4/..2..../.2...../..3.2.1"},
        {"12 12 0 2",
            "............/............/............/............/............/............/..2...2...../............/............/............/............/............"},
        {"12 12 0 24",
            "......3....4/2.2.3......./............/3.2........./2...3.4..2.4/............/4.7...4....2/............/1....2..1.../............/............/3.6..4....11"},
        {"12 12 1 2",
            ".....2....../............/.....2....../............/............/............/............/............/............/............/............/............"},
        {"12 12 1 24",
            "...2.4.5.4../............/.3.6.5.....1/............/.2...3...4.2/4..6...3..../.........2../............/4.........../...2.1....../2..2...4..../.......2.3.."},
        {"12 12 65534 2",
            ".....1....1./............/............/............/............/............/............/............/............/............/............/............"},
        {"12 12 65534 24",
            "2..3.5....3./......3.4.../3.........../......1.4.../..........4./.1...7..4.../.1.3....1.5./2.......2.../............/............/.....4..4.../...3....2.3."},
        {"12 12 65535 2",
            "............/............/............/............/.1........../............/............/.1........../............/............/............/............"},
        {"12 12 65535 24",
            "............/............/3.4...4.1.2./............/33....5...6./......2.3.../............/.3...4..3.../......2...../2.1..2.1..3./.2....5...2./............"},
        {"12 3 0 2", "..2...2...../............/............"},
        {"12 3 0 24", "2.5...3....3/............/2.5..4...2.2"},
        {"12 3 1 2", ".....2....../............/.....2......"},
        {"12 3 1 24", ".1.2.6.3.2.1/............/.2.2.5.3.3.2"},
        {"12 3 65534 2", ".....1....1./............/............"},
        {"12 3 65534 24", ".4..23....12/............/.4.4.6..3..3"},
        {"12 3 65535 2", "............/.2....2...../............"},
        {"12 3 65535 24", "............/.2....4..4.2/............"},
        {"3 12 0 2", "..1/.../..1/.../.../.../.../.../.../.../.../..."},
        {"3 12 0 24", "2.1/.../4.5/.../2../.../5.4/.../.../..1/3.1/..."},
        {"3 12 1 2", ".../..2/.../..2/.../.../.../.../.../.../.../..."},
        {"3 12 1 24", ".../1.3/.../2.4/.../..1/..2/.../5.6/.../2.2/..."},
        {"3 12 65534 2", ".../.../.../.2./.../.../.../.../.2./.../.../..."},
        {"3 12 65534 24", ".1./.../.../.3./.../.../.../.../.3./.../.../.1."},
        {"3 12 65535 2", ".../.1./.../.../.1./.../.../.../.../.../.../..."},
        {"3 12 65535 24", ".../.1./.../.../.2./.../.../.../.../.2./.../.1."},
    };

    private static void is(String call, long got, long want) {
        DUE.is(call, got, want);
    }

    public static void main(String[] args) {
        noIslands();
        mostWays();
        mostSolutions();
        solutionsAreComplete();
        solutionsAreOneGroup();
        solutionsDoNotCross();
        presentBridgesAndCaps();
        inAllTells();
        inAllOfDifferentSolutions();
        inAllErrors();
        asksChangeNothing();
        makeRanges();
        endsOfTheSeeds();
        drawsOneByOne();
        asManyIslandsAsAsked();
        mostTries();
        onTheBoard();
        emptyAndWithoutBridges();
        islandsByAscendingCells();
        bridgesOfThisMaking();
        islandsAheadAreRemoved();
        oneIsland();
        bridgesAreTakenAway();
        DUE.end();
    }

    private static void noIslands() {
        DUE.by("NOT_POSSIBLE if there are no islands;");
        IslandBridges x = new IslandBridges();
        is("new: solutions()", x.solutions(), -2);
        x.island(0, 1);
        is("one island: solutions()", x.solutions(), 0);
        x.removeIsland(0);
        is("removed again: solutions()", x.solutions(), -2);
        is("inAll(0)", x.inAll(0), -1);
        IslandBridges full = Boards.full();
        full.begin(12, 12);
        is("begun again: solutions()", full.solutions(), -2);
    }

    private static void mostWays() {
        DUE.by("LIMIT_REACHED if there are more than 14 ways.");
        IslandBridges fourteen = Boards.of(FOURTEEN_WAYS);
        is("14: count(3)", fourteen.count(3), 14);
        is("14: solutions()", fourteen.solutions(), 8);
        IslandBridges fifteen = Boards.of(FIFTEEN_WAYS);
        is("15: count(3)", fifteen.count(3), 15);
        is("15: solutions()", fifteen.solutions(), -3);
        fifteen.removeIsland(3);
        is("one less: count(3)", fifteen.count(3), 13);
        is("one less: solutions() is no error", fifteen.solutions() >= 0 ? 1 : 0, 1);
        IslandBridges full = Boards.full();
        is("38: solutions()", full.solutions(), -3);
        is("38: inAll(37)", full.inAll(37), -3);
        is("38: inAll(38)", full.inAll(38), -1);
    }

    /** No board with at most 14 ways has more: all 1065 layouts that could have been gone through. */
    private static void mostSolutions() {
        DUE.by("Returns the number of solutions, at most 50 (50: there are 50 or more);");
        String[] most = {"232/343/232", "13331/.343./.232.", "23321/343../232..", "...1/.233/.343/1332"};
        for (String text : most) {
            IslandBridges x = Boards.of(text);
            is(text + ": solutions()", x.solutions(), 31);
            is(text + ": by trying", new Brute(x).allSolutions(), 31);
        }
    }

    private static void solutionsAreComplete() {
        DUE.by("A solution gives each way a number of bridges, 0 to 2, with which the board would be solved and no two ways that "
            + "cross both have bridges.");
        is("a way with 1", Boards.of("1.1/.../...").solutions(), 1);
        is("a way with 2", Boards.of("2.2/.../...").solutions(), 1);
        is("a way with 3 is none", Boards.of("3.3/.../...").solutions(), 0);
        is("one island lacks", Boards.of("1.2/.../...").solutions(), 0);
        is("a way with 0", Boards.of("1.2/.../1.2").solutions(), 1);
        is("all ways with 2", Boards.of("4.4/.../4.4").solutions(), 1);
        is("more than all ways have", Boards.of("5.5/.../4.4").solutions(), 0);
        is("8 in the middle", Boards.of(".2./282/.2.").solutions(), 1);
    }

    private static void solutionsAreOneGroup() {
        is("two pairs of ones", Boards.of("1.1/.../1.1").solutions(), 0);
        is("of three ways to complete twos, two make pairs", Boards.of("2.2/.../2.2").solutions(), 1);
        is("an island without ways", Boards.of("1.1./..../...1").solutions(), 0);
        is("one island", Boards.of("1../.../...").solutions(), 0);
        is("two lonely pairs", Boards.of("2.2../...../...2./...2.").solutions(), 0);
    }

    private static void solutionsDoNotCross() {
        is("each pair has its way, but they cross", Boards.of(".1./1.1/.1.").solutions(), 0);
        is("one of two solutions has both", Boards.of("112/3.4/133").solutions(), 1);
        IslandBridges x = Boards.of("112/3.4/133");
        is("the ways cross", x.way(x.between(1, 7), 5), 1);
        is("one of them has bridges in all", x.inAll(x.between(3, 5)) + x.inAll(x.between(1, 7)) > 0 ? 1 : 0, 1);
        is("and the other one has none", x.inAll(x.between(3, 5)) * x.inAll(x.between(1, 7)), 0);
    }

    private static void presentBridgesAndCaps() {
        DUE.by("(Present bridges and caps do not matter.)");
        IslandBridges x = Boards.of("1.2/.../1.2");
        x.build(1);
        x.cap(0, 0);
        x.cap(2, 0);
        is("broken", x.count(8), 1);
        is("solutions()", x.solutions(), 1);
        is("inAll(0)", x.inAll(0), 1);
        is("inAll(1)", x.inAll(1), 0);
        IslandBridges solved = Boards.of("2.2/.../...");
        solved.build(0);
        solved.build(0);
        is("solved: solutions()", solved.solutions(), 1);
        is("solved: inAll(0)", solved.inAll(0), 2);
    }

    private static void inAllTells() {
        DUE.by("Returns the bridges that a way has in all solutions.");
        int[] want = {1, 0, 1, 1};
        IslandBridges x = Boards.of("1.2/.../1.2");
        for (int way = 0; way < 4; way++) {
            is("inAll(" + way + ")", x.inAll(way), want[way]);
        }
        is("2 of one way", Boards.of("2.2/.../...").inAll(0), 2);
        is("1 of one way", Boards.of("1.1/.../...").inAll(0), 1);
        is("1 of a ring", Boards.of("2.2/.../2.2").inAll(3), 1);
    }

    private static void inAllOfDifferentSolutions() {
        DUE.by("NOT_FOUND if there is no solution, or not all of them have the same number.");
        IslandBridges ring = Boards.of("3.3/.../3.3");
        is("solutions()", ring.solutions(), 2);
        for (int way = 0; way < 4; way++) {
            is("1 or 2: inAll(" + way + ")", ring.inAll(way), -4);
        }
        IslandBridges tail = Boards.of("3.4.1/...../3.3..");
        is("solutions()", tail.solutions(), 2);
        is("the same in both", tail.inAll(tail.between(2, 4)), 1);
        is("not the same", tail.inAll(tail.between(0, 2)), -4);
        String[] many = {"232/343/232", "23321/343../232..", FOURTEEN_WAYS};
        for (String text : many) {
            IslandBridges x = Boards.of(text);
            Brute brute = new Brute(x);
            for (int way = 0; way < x.count(3); way++) {
                is(text + ": inAll(" + way + ")", x.inAll(way), brute.inAll(way));
            }
        }
        IslandBridges none = Boards.of("1.1/.../1.1");
        for (int way = 0; way < 4; way++) {
            is("no solution: inAll(" + way + ")", none.inAll(way), -4);
        }
        is("no solution, one way", Boards.of("3.3/.../...").inAll(0), -4);
    }

    private static void inAllErrors() {
        DUE.by("Returns the bridges; INVALID_ARGUMENT; LIMIT_REACHED if there are more than 14 ways;");
        int[] outside = {-1, 14, 15, MIN, MAX};
        for (int way : outside) {
            is("14 ways: inAll(" + way + ")", Boards.of(FOURTEEN_WAYS).inAll(way), -1);
        }
        IslandBridges fourteen = Boards.of(FOURTEEN_WAYS);
        Brute brute = new Brute(fourteen);
        is("14 ways: inAll(13)", fourteen.inAll(13), brute.inAll(13));
        IslandBridges fifteen = Boards.of(FIFTEEN_WAYS);
        is("15 ways: inAll(0)", fifteen.inAll(0), -3);
        is("15 ways: inAll(14)", fifteen.inAll(14), -3);
        is("15 ways: inAll(15)", fifteen.inAll(15), -1);
        is("15 ways: inAll(-1)", fifteen.inAll(-1), -1);
        is("one island: inAll(0)", Boards.of("1../.../...").inAll(0), -1);
    }

    private static void asksChangeNothing() {
        IslandBridges x = Boards.of("3.3/.../3.3");
        x.build(0);
        x.step();
        String before = Boards.picture(x);
        x.solutions();
        x.inAll(0);
        x.inAll(3);
        DUE.isSame("solutions() and inAll()", Boards.picture(x), before);
        is("solutions() again", x.solutions(), 2);
        is("solutions() of another board", Boards.of("2.2/.../2.2").solutions(), 1);
    }

    private static void makeRanges() {
        DUE.by("Returns the number of islands that it has; INVALID_ARGUMENT if an argument is out of range.");
        int[] seeds = {-1, 65536, 65537, -65536, MIN, MAX};
        int[] numbers = {1, 25, 0, -1, -2, 26, MIN, MAX};
        for (int seed : seeds) {
            notMade(seed, 2);
            notMade(seed, 24);
            notMade(seed, 1);
        }
        for (int islands : numbers) {
            notMade(0, islands);
            notMade(65535, islands);
            notMade(-1, islands);
        }
        IslandBridges x = new IslandBridges();
        is("make(0, 2)", x.make(0, 2), 2);
        is("make(65535, 24)", x.make(65535, 24), 14);
        is("make(0, 24)", x.make(0, 24), 7);
        is("make(65535, 2)", x.make(65535, 2), 2);
    }

    private static void notMade(int seed, int islands) {
        IslandBridges x = Boards.of("2.2/.../2.2");
        x.build(0);
        is("make(" + seed + ", " + islands + ")", x.make(seed, islands), -1);
        is("count(2)", x.count(2), 4);
        is("count(4)", x.count(4), 1);
        is("count(12)", x.count(12), 2);
    }

    private static void made(int columns, int rows, int seed, int islands, String text) {
        IslandBridges x = new IslandBridges();
        x.begin(columns, rows);
        int answer = x.make(seed, islands);
        String call = columns + " x " + rows + ", make(" + seed + ", " + islands + ")";
        DUE.isSame(call, Boards.text(x), text);
        is(call, answer, text.replaceAll("[^1-8]", "").length());
        is(call + ": count(2)", x.count(2), answer);
    }

    private static void endsOfTheSeeds() {
        DUE.by("A board is made from a seed (0 to 65535) for n islands: there is a number z, at first the seed; for each draw, z "
            + "becomes (75 * z + 74) modulo 65537, and the draw below m is z modulo m.");
        for (String[] row : MADE) {
            String[] numbers = row[0].split(" ");
            made(Integer.parseInt(numbers[0]), Integer.parseInt(numbers[1]), Integer.parseInt(numbers[2]),
                Integer.parseInt(numbers[3]), row[1]);
        }
    }

    private static void drawsOneByOne() {
        DUE.by("a draw below the number of islands tells one of them (by ascending cells), a draw below 4 a direction (0 right, 1 "
            + "down, 2 left, 3 up), a draw below 4, plus 2, a distance, and a draw below 2, plus 1, a number of bridges.");
        // 74: cell 25. 5624, 28652, 51790, 17641: island 0, right, 4, 2 bridges; not on the board.
        // 12409, 13231, 9344, 45504: island 0, up, 2, 1 bridge.
        made(7, 7, 0, 2, "......./....1../......./....1../......./......./.......");
        // 65461: cell 46. 59911, 36883, 13745, 47894: island 0, up, 3, 1 bridge.
        made(7, 7, 65535, 2, "......./......./......./....1../......./......./....1..");
        // 149: cell 2. 11249, 57305, 38044, 35283: island 0, down, 2, 2 bridges.
        made(7, 7, 1, 2, "..2..../......./..2..../......./......./......./.......");
    }

    private static void asManyIslandsAsAsked() {
        DUE.by("Then, at most 200 times, as long as there are fewer than n islands:");
        IslandBridges x = new IslandBridges();
        x.begin(12, 12);
        for (int islands = 2; islands <= 24; islands++) {
            is("make(1, " + islands + ")", x.make(1, islands), islands);
        }
    }

    private static void mostTries() {
        DUE.by("Then, at most 200 times,");
        // The try 200 makes the island asked for, and the last one.
        made(7, 7, 187, 10, ".3.6..2/....1.2/.....2./......./...4.4./.3....3/.......");
        made(5, 4, 1597, 6, "3.4.4/...../3.2.2/.....");
        made(12, 12, 1137, 20, "3...3..1..../.1........../............/.3..5...3.1./............/2........1../............/"
            + "4...6....5../..2........./....11....../............/2.4..2...2..");
        // The try 201 would make one more.
        made(7, 7, 367, 10, "......./..3..3./......./....2../2....../..2.3../3.3..3.");
        made(4, 5, 369, 6, ".1../..../.2.2/..../.1.2");
    }

    private static void onTheBoard() {
        DUE.by("If the cell at this distance in this direction is on the board,");
        // Up to the edge of each side, and not over it into the next row.
        made(5, 4, 0, 2, "....1/...../....1/.....");
        made(5, 4, 1, 2, "...../....2/...../....2");
        made(5, 4, 2, 2, "2...2/...../...../.....");
        made(5, 4, 4, 2, "...../...../..2.2/.....");
    }

    private static void emptyAndWithoutBridges() {
        DUE.by("and it and all cells between are empty and without a bridge of this making, it becomes an island");
        // An island at the distance.
        made(5, 4, 2, 5, "4...2/...../4...2/.....");
        made(7, 7, 29, 5, "......./......2/......./..3...4/......./......./..3...2");
        // An island in between.
        made(7, 7, 75, 5, "......./......./.3..4../......./.3.22../......./.......");
        // A bridge at the distance.
        made(5, 4, 18, 5, "11..3/...../3...4/.....");
        made(7, 7, 2, 5, "3....2./......./......./......./3..4.2./......./.......");
        // A bridge in between.
        made(7, 7, 57, 5, "..1..../......./..3..../....1../......./..3.2../.......");
    }

    private static void islandsByAscendingCells() {
        DUE.by("a draw below the number of islands tells one of them (by ascending cells)");
        made(5, 4, 0, 3, "..2.3/...../....1/.....");
        made(7, 7, 0, 3, "......./....3.2/......./....1../......./......./.......");
        made(12, 12, 3, 3, ".........1.3/............/...........2/............/............/............/............/............/"
            + "............/............/............/............");
    }

    private static void bridgesOfThisMaking() {
        IslandBridges x = Boards.of("2...2/...../...../2...2");
        for (int way = 0; way < 4; way++) {
            x.build(way);
        }
        is("over built bridges: make(18, 5)", x.make(18, 5), 5);
        DUE.isSame("over built bridges", Boards.text(x), "11..3/...../3...4/.....");
        is("over those of a making: make(2, 5)", x.make(2, 5), 4);
        DUE.isSame("over those of a making", Boards.text(x), "4...2/...../4...2/.....");
        is("the same again: make(18, 5)", x.make(18, 5), 5);
        DUE.isSame("the same again", Boards.text(x), "11..3/...../3...4/.....");
    }

    private static void islandsAheadAreRemoved() {
        DUE.by("All islands are removed. The first island is at the cell that is a draw below W * H.");
        IslandBridges x = Boards.of("8888/8..8/8..8/8888");
        is("make(0, 2)", x.make(0, 2), 2);
        is("count(2)", x.count(2), 2);
        is("count(0)", x.count(0), 4);
        is("count(1)", x.count(1), 4);
        IslandBridges full = Boards.full();
        is("full: make(65535, 24)", full.make(65535, 24), 23);
        is("full: count(2)", full.count(2), 23);
        is("full: undo()", full.undo(), 3);
        is("full: count(2) then", full.count(2), 24);
    }

    private static void oneIsland() {
        DUE.by("If there is one island at the end, its number is 1.");
        made(3, 3, 65535, 2, ".../.1./...");
        made(3, 3, 65535, 24, ".../.1./...");
        IslandBridges x = new IslandBridges();
        x.begin(3, 3);
        is("make(65535, 24)", x.make(65535, 24), 1);
        is("islandInfo(4, 0)", x.islandInfo(4, 0), 1);
        is("solutions()", x.solutions(), 0);
        is("count(8)", x.count(8), 1);
    }

    private static void bridgesAreTakenAway() {
        DUE.by("At the end the number of each island is the number of its bridges, and all bridges are taken away.");
        for (int seed = 0; seed < 100; seed++) {
            IslandBridges x = new IslandBridges();
            x.make(seed * 655, 8);
            is("make(" + seed * 655 + ", 8): count(4)", x.count(4), 0);
            is("make(" + seed * 655 + ", 8): count(11)", x.count(11), 0);
            is("make(" + seed * 655 + ", 8): an even sum, or one island", x.count(2) == 1 ? 0 : x.count(9) % 2, 0);
        }
    }
}
