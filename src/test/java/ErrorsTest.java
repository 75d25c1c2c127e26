import java.util.function.Supplier;

/** Errors: their order where several apply, and that a call with one changes nothing. */
public final class ErrorsTest {
    private static final Due DUE = new Due("ErrorsTest");
    private static final int INVALID = IslandBridges.INVALID_ARGUMENT;
    private static final int NOT_POSSIBLE = IslandBridges.NOT_POSSIBLE;
    private static final int LIMIT = IslandBridges.LIMIT_REACHED;
    private static final int NOT_FOUND = IslandBridges.NOT_FOUND;

    private interface Call {
        int on(IslandBridges board);
    }

    public static void main(String[] args) {
        invalidAheadOfNotPossible();
        invalidAheadOfLimit();
        invalidAheadOfNotFound();
        notPossibleAheadOfNotFound();
        limitAheadOfNotFound();
        errorsOfTheEmptyBoard();
        errorsOfAUsedBoard();
        errorsOfTheFullBoard();
        errorsOfTexts();
        DUE.end();
    }

    /** The answer is due, and whatever is asked behind it is as without the call. */
    private static void refused(String name, Supplier<IslandBridges> scene, Call call, int want) {
        Supplier<IslandBridges> behind = () -> {
            IslandBridges board = scene.get();
            DUE.is(name, call.on(board), want);
            DUE.is(name + " again", call.on(board), want);
            return board;
        };
        DUE.isSame(name + " changes nothing", Boards.unwound(behind), Boards.unwound(scene));
    }

    private static IslandBridges used() {
        IslandBridges x = Boards.of("3.2.2/...../3.3.1");
        x.build(0);
        x.steps(3);
        x.cap(2, 1);
        Boards.write(x, "1.1/.../1.1/");
        return x;
    }

    private static IslandBridges full() {
        IslandBridges x = Boards.full();
        x.build(0);
        x.build(37);
        for (int length = 0; length < 160; length++) {
            x.type(length < 24 ? '8' : '.');
        }
        return x;
    }

    private static IslandBridges broken() {
        IslandBridges x = Boards.of("1.3/.../...");
        x.build(0);
        return x;
    }

    private static IslandBridges typed(String text) {
        IslandBridges x = Boards.of("2.2/.../2.2");
        x.build(0);
        Boards.write(x, text);
        return x;
    }

    private static void invalidAheadOfNotPossible() {
        DUE.by("If several errors apply to a call, INVALID_ARGUMENT is returned rather than NOT_POSSIBLE, NOT_POSSIBLE rather than "
            + "LIMIT_REACHED, and LIMIT_REACHED rather than NOT_FOUND.");
        Supplier<IslandBridges> bridges = () -> typed("");
        refused("a cap of -1, with a bridge", bridges, x -> x.cap(0, -1), INVALID);
        refused("a cap of 0, with a bridge", bridges, x -> x.cap(0, 0), NOT_POSSIBLE);
        refused("a cap of 0, no way", bridges, x -> x.cap(4, 0), INVALID);
        refused("take, no way", bridges, x -> x.take(4), INVALID);
        refused("take, no bridge", bridges, x -> x.take(3), NOT_POSSIBLE);
        refused("build, no way", IslandBridges::new, x -> x.build(0), INVALID);
        refused("take, no way on the empty board", IslandBridges::new, x -> x.take(0), INVALID);
        refused("cap, no way on the empty board", IslandBridges::new, x -> x.cap(0, 2), INVALID);
    }

    private static void invalidAheadOfLimit() {
        refused("island, no cell", ErrorsTest::full, x -> x.island(144, 1), INVALID);
        refused("island, no cell", ErrorsTest::full, x -> x.island(-1, 1), INVALID);
        refused("island, no number", ErrorsTest::full, x -> x.island(143, 0), INVALID);
        refused("island, no number", ErrorsTest::full, x -> x.island(143, 9), INVALID);
        refused("island, the 25th", ErrorsTest::full, x -> x.island(143, 8), LIMIT);
        refused("inAll, no way", ErrorsTest::full, x -> x.inAll(38), INVALID);
        refused("inAll, no way", ErrorsTest::full, x -> x.inAll(-1), INVALID);
        refused("inAll, 38 ways", ErrorsTest::full, x -> x.inAll(37), LIMIT);
        refused("type, no character", ErrorsTest::full, x -> x.type(31), INVALID);
        refused("type, no character", ErrorsTest::full, x -> x.type(127), INVALID);
        refused("type, the 161st", ErrorsTest::full, x -> x.type(32), LIMIT);
        refused("type, the 161st", ErrorsTest::full, x -> x.type(126), LIMIT);
    }

    private static void invalidAheadOfNotFound() {
        refused("islandInfo, no property, no island", ErrorsTest::used, x -> x.islandInfo(1, 6), INVALID);
        refused("islandInfo, no property, no island", ErrorsTest::used, x -> x.islandInfo(1, -1), INVALID);
        refused("islandInfo, no island", ErrorsTest::used, x -> x.islandInfo(1, 5), NOT_FOUND);
        refused("between, no island, no cell", ErrorsTest::used, x -> x.between(1, 15), INVALID);
        refused("between, no cell, no island", ErrorsTest::used, x -> x.between(-1, 1), INVALID);
        refused("between, no island", ErrorsTest::used, x -> x.between(1, 14), NOT_FOUND);
        refused("fault, nothing to tell, no fault", () -> typed(".../.../..."), x -> x.fault(2), INVALID);
        refused("fault, no fault", () -> typed(".../.../..."), x -> x.fault(1), NOT_FOUND);
        refused("inAll, no solution, no way", ErrorsTest::broken, x -> x.inAll(1), INVALID);
        refused("inAll, no solution", ErrorsTest::broken, x -> x.inAll(0), NOT_FOUND);
        refused("removeIsland, no cell", IslandBridges::new, x -> x.removeIsland(49), INVALID);
        refused("removeIsland, no island", IslandBridges::new, x -> x.removeIsland(48), NOT_FOUND);
    }

    private static void notPossibleAheadOfNotFound() {
        Supplier<IslandBridges> alone = () -> Boards.of("1../.../...");
        refused("step, broken and none", alone, x -> x.step(), NOT_POSSIBLE);
        refused("hint, broken and none", alone, x -> x.hint(), NOT_POSSIBLE);
        refused("step, broken and one", ErrorsTest::broken, x -> x.step(), NOT_POSSIBLE);
        refused("hint, broken and one", ErrorsTest::broken, x -> x.hint(), NOT_POSSIBLE);
        refused("step, none", IslandBridges::new, x -> x.step(), NOT_FOUND);
        refused("hint, none", IslandBridges::new, x -> x.hint(), NOT_FOUND);
        refused("steps, broken and out of range", ErrorsTest::broken, x -> x.steps(201), INVALID);
        refused("steps, broken and out of range", ErrorsTest::broken, x -> x.steps(0), INVALID);
    }

    private static void limitAheadOfNotFound() {
        // Ones in one group are two at most, so that there is no solution.
        Supplier<IslandBridges> many = () -> Boards.of("11111/11111/1111.");
        refused("inAll, no solution, too many ways", many, x -> x.inAll(0), LIMIT);
        refused("solutions, no solution, too many ways", many, x -> x.solutions(), LIMIT);
        Supplier<IslandBridges> few = () -> Boards.of("1111/..../1111");
        refused("inAll, no solution", few, x -> x.inAll(0), NOT_FOUND);
        Supplier<IslandBridges> empty = IslandBridges::new;
        refused("solutions, no islands", empty, x -> x.solutions(), NOT_POSSIBLE);
    }

    private static void errorsOfTheEmptyBoard() {
        DUE.by("A call that returns an error changes nothing.");
        Supplier<IslandBridges> empty = IslandBridges::new;
        refused("begin(2, 7)", empty, x -> x.begin(2, 7), INVALID);
        refused("begin(7, 13)", empty, x -> x.begin(7, 13), INVALID);
        refused("island(49, 1)", empty, x -> x.island(49, 1), INVALID);
        refused("island(0, 9)", empty, x -> x.island(0, 9), INVALID);
        refused("at(49)", empty, x -> x.at(49), INVALID);
        refused("at(-1)", empty, x -> x.at(-1), INVALID);
        refused("islandInfo(0, 0)", empty, x -> x.islandInfo(0, 0), NOT_FOUND);
        refused("way(0, 0)", empty, x -> x.way(0, 0), INVALID);
        refused("between(0, 6)", empty, x -> x.between(0, 6), NOT_FOUND);
        refused("count(14)", empty, x -> x.count(14), INVALID);
        refused("inAll(0)", empty, x -> x.inAll(0), INVALID);
        refused("make(-1, 2)", empty, x -> x.make(-1, 2), INVALID);
        refused("make(65536, 24)", empty, x -> x.make(65536, 24), INVALID);
        refused("make(0, 1)", empty, x -> x.make(0, 1), INVALID);
        refused("make(65535, 25)", empty, x -> x.make(65535, 25), INVALID);
        refused("undo()", empty, x -> x.undo(), NOT_POSSIBLE);
        refused("load()", empty, x -> x.load(), NOT_POSSIBLE);
        refused("fault(2)", empty, x -> x.fault(2), INVALID);
    }

    private static void errorsOfAUsedBoard() {
        Supplier<IslandBridges> used = ErrorsTest::used;
        refused("begin(13, 3)", used, x -> x.begin(13, 3), INVALID);
        refused("begin(3, 2)", used, x -> x.begin(3, 2), INVALID);
        refused("island(15, 1)", used, x -> x.island(15, 1), INVALID);
        refused("island(0, 0)", used, x -> x.island(0, 0), INVALID);
        refused("removeIsland(15)", used, x -> x.removeIsland(15), INVALID);
        refused("removeIsland(1)", used, x -> x.removeIsland(1), NOT_FOUND);
        refused("way(7, 0)", used, x -> x.way(7, 0), INVALID);
        refused("way(0, 8)", used, x -> x.way(0, 8), INVALID);
        refused("build(7)", used, x -> x.build(7), INVALID);
        refused("take(-1)", used, x -> x.take(-1), INVALID);
        refused("cap(0, 3)", used, x -> x.cap(0, 3), INVALID);
        refused("cap(0, 0)", used, x -> x.cap(0, 0), NOT_POSSIBLE);
        refused("steps(0)", used, x -> x.steps(0), INVALID);
        refused("steps(201)", used, x -> x.steps(201), INVALID);
        refused("inAll(7)", used, x -> x.inAll(7), INVALID);
        refused("make(0, 25)", used, x -> x.make(0, 25), INVALID);
        refused("load()", used, x -> x.load(), NOT_POSSIBLE);
        refused("build, two bridges", () -> twice("2.2/.../..."), x -> x.build(0), NOT_POSSIBLE);
        refused("build, complete", () -> twice("1.2/.../..."), x -> x.build(0), NOT_POSSIBLE);
        refused("build, crossed", () -> twice(".2./2.2/.2."), x -> x.build(1), NOT_POSSIBLE);
    }

    private static IslandBridges twice(String text) {
        IslandBridges x = Boards.of(text);
        x.build(0);
        x.build(0);
        return x;
    }

    private static void errorsOfTheFullBoard() {
        Supplier<IslandBridges> full = ErrorsTest::full;
        refused("begin(12, 13)", full, x -> x.begin(12, 13), INVALID);
        refused("removeIsland(143)", full, x -> x.removeIsland(143), NOT_FOUND);
        refused("removeIsland(144)", full, x -> x.removeIsland(144), INVALID);
        refused("at(144)", full, x -> x.at(144), INVALID);
        refused("islandInfo(143, 0)", full, x -> x.islandInfo(143, 0), NOT_FOUND);
        refused("way(38, 0)", full, x -> x.way(38, 0), INVALID);
        refused("between(0, 104)", full, x -> x.between(0, 104), NOT_FOUND);
        refused("build(38)", full, x -> x.build(38), INVALID);
        refused("take(36)", full, x -> x.take(36), NOT_POSSIBLE);
        refused("cap(37, 0)", full, x -> x.cap(37, 0), NOT_POSSIBLE);
        refused("step()", full, x -> x.step(), NOT_POSSIBLE);
        refused("hint()", full, x -> x.hint(), NOT_POSSIBLE);
        refused("solutions()", full, x -> x.solutions(), LIMIT);
        refused("make(0, 0)", full, x -> x.make(0, 0), INVALID);
        refused("load()", full, x -> x.load(), NOT_POSSIBLE);
    }

    private static void errorsOfTexts() {
        String[] faults = {"", "1.1/.../1.", "1.1/...1", "1.1/.../1.1?", "../", "11111/11111/11111/11111/11111"};
        for (String text : faults) {
            refused("load() of " + text, () -> typed(text), x -> x.load(), NOT_POSSIBLE);
            refused("fault(-1) of " + text, () -> typed(text), x -> x.fault(-1), INVALID);
            refused("type(0) behind " + text, () -> typed(text), x -> x.type(0), INVALID);
        }
        refused("fault(0)", () -> typed("1.1/.../1.1"), x -> x.fault(0), NOT_FOUND);
        refused("type(-1)", () -> typed("1.1/.../1.1"), x -> x.type(-1), INVALID);
    }
}
