/** Promises 17 to 19: solutions, and boards that are made. */
public final class SolutionsTest {
    private static final Due DUE = new Due("SolutionsTest");
    /** The most solutions that a search found on boards of at most 14 ways; none had 50. */
    private static final String MANY = "232/343/232";
    private static final String FOURTEEN_WAYS = "2.32/.143/223./2..2";

    private static void is(String call, long got, long want) {
        DUE.is(call, got, want);
    }

    public static void main(String[] args) {
        solutions();
        limitOfWays();
        manySolutions();
        crossingWays();
        bridgesAndCapsDoNotMatter();
        inAll();
        make();
        makeOneIsland();
        makeKeepsSize();
        DUE.end();
    }

    private static void solutions() {
        is("no islands", new IslandBridges().solutions(), -2);
        is("alone", Boards.of(".../.1./...").solutions(), 0);
        is("1.1", Boards.of("1.1/.../...").solutions(), 1);
        is("2.2", Boards.of("2.2/.../...").solutions(), 1);
        is("3.3", Boards.of("3.3/.../...").solutions(), 0);
        is("1.2", Boards.of("1.2/.../...").solutions(), 0);
        is("two pairs", Boards.of("1.1/.../1.1").solutions(), 0);
        is("ring of twos", Boards.of("2.2/.../2.2").solutions(), 1);
        is("ring of threes", Boards.of("3.3/.../3.3").solutions(), 2);
        is("an island without ways", Boards.of("1.1./..../...1").solutions(), 0);
    }

    private static void limitOfWays() {
        IslandBridges x = Boards.of("242./464./243.");
        is("count(3)", x.count(3), 12);
        x.island(3, 1);
        is("count(3)", x.count(3), 13);
        x.island(7, 1);
        is("count(3)", x.count(3), 15);
        is("solutions() with 15", x.solutions(), -3);
        is("inAll(0) with 15", x.inAll(0), -3);
        is("inAll(15) with 15", x.inAll(15), -1);
        x.removeIsland(10);
        is("count(3)", x.count(3), 13);
        DUE.isTrue("solutions() with 13", x.solutions() >= 0);
        IslandBridges y = Boards.of(FOURTEEN_WAYS);
        is("count(3)", y.count(3), 14);
        is("solutions() with 14", y.solutions(), 8);
        Brute brute = new Brute(y);
        for (int way = 0; way < 14; way++) {
            is("inAll(" + way + ") with 14", y.inAll(way), brute.inAll(way));
        }
    }

    private static void manySolutions() {
        IslandBridges x = Boards.of(MANY);
        is("solutions()", x.solutions(), 31);
        is("again", x.solutions(), 31);
        is("by trying", new Brute(x).solutions(), 31);
    }

    private static void crossingWays() {
        is("only one of two that cross", Boards.of(".1./1.1/.1.").solutions(), 0);
        is("one of two solutions has both", Boards.of("112/3.4/133").solutions(), 1);
        IslandBridges x = Boards.of("12.1/1..2/.1.1/....");
        is("the ways that cross are not both built", x.solutions(), new Brute(x).solutions());
    }

    private static void bridgesAndCapsDoNotMatter() {
        IslandBridges x = Boards.of("3.3/.../3.3");
        x.build(0);
        x.build(0);
        x.cap(3, 0);
        is("solutions()", x.solutions(), 2);
        is("inAll(0)", x.inAll(0), -4);
        is("count(12)", x.count(12), 4);
        is("way(0, 2)", x.way(0, 2), 2);
        is("way(3, 3)", x.way(3, 3), 0);
    }

    private static void inAll() {
        IslandBridges x = Boards.of("3.4.1/...../2.1..");
        is("inAll(-1)", x.inAll(-1), -1);
        is("inAll(99)", x.inAll(99), -1);
        Brute brute = new Brute(x);
        for (int way = 0; way < x.count(3); way++) {
            is("inAll(" + way + ")", x.inAll(way), brute.inAll(way));
        }
        IslandBridges y = Boards.of("2.2/.../...");
        is("2.2: inAll(0)", y.inAll(0), 2);
        IslandBridges none = Boards.of("3.3/.../...");
        is("no solution: inAll(0)", none.inAll(0), -4);
        IslandBridges zero = Boards.of("1.2/.../1.2");
        is("1.2/1.2: inAll(0)", zero.inAll(0), 1);
        is("1.2/1.2: inAll(1)", zero.inAll(1), 0);
        is("1.2/1.2: inAll(2)", zero.inAll(2), 1);
        is("1.2/1.2: inAll(3)", zero.inAll(3), 1);
        is("no islands: inAll(0)", new IslandBridges().inAll(0), -1);
        IslandBridges many = Boards.of(MANY);
        Brute counted = new Brute(many);
        for (int way = 0; way < 12; way++) {
            is("many: inAll(" + way + ")", many.inAll(way), counted.inAll(way));
        }
    }

    private static void make() {
        IslandBridges x = new IslandBridges();
        is("make(-1, 9)", x.make(-1, 9), -1);
        is("make(65536, 9)", x.make(65536, 9), -1);
        is("make(0, 1)", x.make(0, 1), -1);
        is("make(0, 25)", x.make(0, 25), -1);
        is("count(12)", x.count(12), 0);
        twoIslands(x, 21, 32, 34, 1);
        // z is 749 (cell 14), 56249 (the island), 24381 (down), 59150 (distance 4), 45345 (2 bridges).
        twoIslands(x, 9, 14, 42, 2);
        twoIslands(x, 10, 40, 38, 2);
        twoIslands(x, 34, 27, 6, 1);
        // The first try leaves the board: z goes on from behind its four draws.
        twoIslands(x, 0, 25, 11, 1);
        is("count(4)", x.count(4), 0);
        is("make(65535, 24)", x.make(65535, 24) >= 2 ? 1 : 0, 1);
        // With seed 82 the try 200 makes the last island; with 285 the try 201 would make one more.
        made(82, 24, 12, 12);
        made(285, 24, 12, 12);
        made(187, 24, 7, 7);
        made(33, 24, 7, 7);
        x.begin(12, 12);
        is("make(82, 24)", x.make(82, 24), 23);
        is("make(285, 24)", x.make(285, 24), 23);
        for (int seed = 0; seed < 65536; seed += 911) {
            made(seed, 2 + seed % 23, 3 + seed % 10, 3 + seed / 10 % 10);
        }
    }

    private static void twoIslands(IslandBridges x, int seed, int one, int other, int number) {
        is("make(" + seed + ", 2)", x.make(seed, 2), 2);
        is("make(" + seed + ", 2): at(" + one + ")", x.at(one), number);
        is("make(" + seed + ", 2): at(" + other + ")", x.at(other), number);
        is("make(" + seed + ", 2): count(9)", x.count(9), 2 * number);
    }

    private static void made(int seed, int islands, int columns, int rows) {
        IslandBridges x = new IslandBridges();
        x.begin(columns, rows);
        int got = x.make(seed, islands);
        int[] want = Made.board(columns, rows, seed, islands);
        int wanted = 0;
        for (int cell = 0; cell < columns * rows; cell++) {
            is("make(" + seed + ", " + islands + "): at(" + cell + ")", x.at(cell), want[cell]);
            wanted += want[cell] > 0 ? 1 : 0;
        }
        is("make(" + seed + ", " + islands + ")", got, wanted);
        if (wanted > 1 && x.count(3) <= 14) {
            DUE.isTrue("a made board has a solution: " + seed, x.solutions() > 0);
        }
    }

    private static void makeOneIsland() {
        IslandBridges x = new IslandBridges();
        x.begin(3, 3);
        // z is 75 * 1749 + 74 modulo 65537 = 175, and 175 modulo 9 = 4: nothing is two cells away from the centre.
        is("make(1749, 5)", x.make(1749, 5), 1);
        is("at(4)", x.at(4), 1);
        is("count(9)", x.count(9), 1);
        is("count(3)", x.count(3), 0);
    }

    private static void makeKeepsSize() {
        IslandBridges x = Boards.of("1111/1111/1111");
        DUE.isTrue("make(7, 3)", x.make(7, 3) <= 3);
        is("count(0)", x.count(0), 4);
        is("count(1)", x.count(1), 3);
        DUE.isTrue("the islands ahead are removed", x.count(2) <= 3);
        x.undo();
        is("count(2) after undo", x.count(2), 12);
    }
}
