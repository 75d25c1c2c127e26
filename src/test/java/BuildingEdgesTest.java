/** Promises 10 to 13: each sentence about building that names an edge. */
public final class BuildingEdgesTest {
    private static final Due DUE = new Due("BuildingEdgesTest");
    private static final int MIN = Integer.MIN_VALUE;
    private static final int MAX = Integer.MAX_VALUE;

    private static void is(String call, long got, long want) {
        DUE.is(call, got, want);
    }

    public static void main(String[] args) {
        twoBridges();
        capIsItsBridges();
        crossedByBridges();
        completeIsland();
        firstReasonThatApplies();
        buildTells();
        takeTells();
        capStaysByTake();
        capRanges();
        capBelowTheBridges();
        capTellsThePreviousOne();
        clearTells();
        clearOfTheEmptyBoard();
        wayRanges();
        DUE.end();
    }

    /** The reason against a way, and whether build refuses it then. */
    private static void reason(String name, IslandBridges x, int way, int want) {
        int bridges = x.way(way, 2);
        int states = x.count(12);
        is(name + ": way(" + way + ", 7)", x.way(way, 7), want);
        is(name + ": build(" + way + ")", x.build(way), want == 0 ? bridges + 1 : -2);
        is(name + ": way(" + way + ", 2)", x.way(way, 2), want == 0 ? bridges + 1 : bridges);
        if (want != 0) {
            is(name + ": count(12)", x.count(12), states);
        }
    }

    private static void twoBridges() {
        DUE.by("A bridge cannot be built on a way for the reason 1 if the way has two");
        IslandBridges x = Boards.of("3.3/.../...");
        reason("none", x, 0, 0);
        reason("one", x, 0, 0);
        reason("two", x, 0, 1);
        x.take(0);
        reason("one again", x, 0, 0);
    }

    private static void capIsItsBridges() {
        DUE.by("2 if its cap is its bridges");
        IslandBridges x = Boards.of("3.3/.../...");
        x.cap(0, 0);
        reason("0 of 0", x, 0, 2);
        x.cap(0, 1);
        reason("0 of 1", x, 0, 0);
        reason("1 of 1", x, 0, 2);
        x.cap(0, 2);
        reason("1 of 2", x, 0, 0);
    }

    private static void crossedByBridges() {
        DUE.by("3 if a way that crosses it has bridges");
        IslandBridges x = Boards.of(".2./2.2/.2.");
        x.build(1);
        reason("one bridge across", x, 0, 3);
        x.build(1);
        reason("two bridges across", x, 0, 3);
        x.take(1);
        x.take(1);
        reason("none across any more", x, 0, 0);
        reason("the other way then", x, 1, 3);
        IslandBridges y = Boards.of(".11./2..2/2..2/.11.");
        y.build(y.between(8, 11));
        reason("the second one across has a bridge", y, y.between(1, 13), 3);
        y.take(y.between(8, 11));
        y.build(y.between(4, 7));
        reason("the first one across has a bridge", y, y.between(1, 13), 3);
        reason("a way beside", y, y.between(8, 11), 0);
    }

    private static void completeIsland() {
        DUE.by("4 if one of its islands is complete or has more than its number; the first one of these that applies.");
        IslandBridges first = Boards.of("1.3/.../...");
        reason("it lacks 1", first, 0, 0);
        reason("the first is complete", first, 0, 4);
        IslandBridges second = Boards.of("3.1/.../...");
        reason("it lacks 1", second, 0, 0);
        reason("the second is complete", second, 0, 4);
        IslandBridges both = Boards.of("1.1/.../...");
        reason("both lack 1", both, 0, 0);
        reason("both are complete", both, 0, 4);
        IslandBridges other = Boards.of("1.2.2/...../.....");
        reason("by another way", other, 0, 0);
        reason("of the second", other, 1, 0);
        reason("the second is complete", other, 1, 4);
        other.take(0);
        reason("it lacks 1 again", other, 1, 0);
    }

    private static void firstReasonThatApplies() {
        IslandBridges x = Boards.of("2.2/.../...");
        x.build(0);
        x.build(0);
        reason("1 ahead of 2 and 4", x, 0, 1);
        x.take(0);
        x.cap(0, 1);
        reason("2 alone", x, 0, 2);
        IslandBridges y = Boards.of("1.1/.../...");
        y.build(0);
        y.cap(0, 1);
        reason("2 ahead of 4", y, 0, 2);
        y.cap(0, 2);
        reason("4 alone", y, 0, 4);
        IslandBridges z = Boards.of(".1.1/2.2./.2../....");
        int column = z.between(1, 9);
        z.build(z.between(4, 6));
        reason("3 alone", z, column, 3);
        z.build(z.between(1, 3));
        reason("3 ahead of 4", z, column, 3);
        z.cap(column, 0);
        reason("2 ahead of 3 and 4", z, column, 2);
        z.cap(column, 1);
        z.take(z.between(4, 6));
        reason("4 behind all", z, column, 4);
        z.take(z.between(1, 3));
        reason("none", z, column, 0);
    }

    private static void buildTells() {
        DUE.by("Returns its bridges then; INVALID_ARGUMENT; NOT_POSSIBLE if none can be built.");
        IslandBridges x = Boards.of("3.4/.../3.4");
        is("build(3), the last way", x.build(3), 1);
        is("build(3)", x.build(3), 2);
        is("build(3)", x.build(3), -2);
        is("build(4)", x.build(4), -1);
        is("build(0), the first way", x.build(0), 1);
        is("way(0, 2)", x.way(0, 2), 1);
        is("way(3, 2)", x.way(3, 2), 2);
        is("its cap stays", x.way(0, 3), 2);
        is("the others stay", x.way(1, 2) + x.way(2, 2), 0);
        is("count(4)", x.count(4), 3);
    }

    private static void takeTells() {
        DUE.by("Returns its bridges then; INVALID_ARGUMENT; NOT_POSSIBLE if it has none.");
        IslandBridges x = Boards.of("3.3/.../3.3");
        is("take(3) without bridges", x.take(3), -2);
        x.build(3);
        x.build(3);
        x.build(0);
        is("take(3)", x.take(3), 1);
        is("take(3)", x.take(3), 0);
        is("take(3)", x.take(3), -2);
        is("take(4)", x.take(4), -1);
        is("take(0)", x.take(0), 0);
        is("take(0)", x.take(0), -2);
        is("count(4)", x.count(4), 0);
    }

    private static void capStaysByTake() {
        DUE.by("Takes a bridge from a way. (Its cap stays.)");
        IslandBridges x = Boards.of("2.2/.../...");
        x.build(0);
        x.build(0);
        x.take(0);
        is("cap 2", x.way(0, 3), 2);
        x.cap(0, 1);
        x.take(0);
        is("cap 1", x.way(0, 3), 1);
        is("a bridge up to the cap", x.build(0), 1);
        is("no more", x.build(0), -2);
    }

    private static void capRanges() {
        DUE.by("`value`: 0 to 2");
        int[] outside = {-1, 3, 4, -2, MIN, MAX};
        for (int value : outside) {
            IslandBridges x = Boards.of("2.2/.../...");
            is("cap(0, " + value + ")", x.cap(0, value), -1);
            is("way(0, 3)", x.way(0, 3), 2);
            is("count(12)", x.count(12), 1);
            x.build(0);
            is("cap(0, " + value + ") with a bridge", x.cap(0, value), -1);
            is("cap(1, " + value + ")", x.cap(1, value), -1);
        }
        for (int value = 0; value <= 2; value++) {
            IslandBridges x = Boards.of("2.2/.../...");
            is("cap(0, " + value + ")", x.cap(0, value), 2);
            is("way(0, 3)", x.way(0, 3), value);
        }
    }

    private static void capBelowTheBridges() {
        DUE.by("NOT_POSSIBLE if it has more bridges than that.");
        IslandBridges x = Boards.of("3.3/.../...");
        is("0 for 0 bridges", x.cap(0, 0), 2);
        x.cap(0, 2);
        x.build(0);
        is("0 for 1 bridge", x.cap(0, 0), -2);
        is("way(0, 3)", x.way(0, 3), 2);
        is("1 for 1 bridge", x.cap(0, 1), 2);
        x.cap(0, 2);
        x.build(0);
        is("0 for 2 bridges", x.cap(0, 0), -2);
        is("1 for 2 bridges", x.cap(0, 1), -2);
        is("way(0, 3)", x.way(0, 3), 2);
        is("2 for 2 bridges", x.cap(0, 2), 2);
    }

    private static void capTellsThePreviousOne() {
        DUE.by("Returns the previous cap; INVALID_ARGUMENT if an argument is out of range;");
        IslandBridges x = Boards.of("3.3/.../3.3");
        is("cap(3, 1)", x.cap(3, 1), 2);
        is("cap(3, 0)", x.cap(3, 0), 1);
        is("cap(3, 0), the same", x.cap(3, 0), 0);
        is("count(12)", x.count(12), 4);
        is("cap(3, 2)", x.cap(3, 2), 0);
        is("cap(3, 2), the same", x.cap(3, 2), 2);
        x.cap(0, 0);
        is("only its own", x.way(3, 3), 2);
        is("way(1, 3)", x.way(1, 3), 2);
    }

    private static void clearTells() {
        DUE.by("Takes all bridges away, and makes all caps 2.");
        IslandBridges x = Boards.of("4.4/.../4.4");
        x.build(0);
        x.build(0);
        x.build(3);
        x.cap(1, 0);
        x.cap(2, 1);
        x.cap(3, 1);
        is("clear()", x.clear(), 3);
        for (int way = 0; way < 4; way++) {
            is("way(" + way + ", 2)", x.way(way, 2), 0);
            is("way(" + way + ", 3)", x.way(way, 3), 2);
        }
        is("the islands stay", x.count(2), 4);
        is("clear() again", x.clear(), 0);
    }

    private static void clearOfTheEmptyBoard() {
        DUE.by("Returns how many bridges there were.");
        IslandBridges x = new IslandBridges();
        is("clear()", x.clear(), 0);
        is("it is a change", x.count(12), 1);
        is("undo()", x.undo(), 0);
    }

    private static void wayRanges() {
        DUE.by("If there is no cell or way with a certain number, this is INVALID_ARGUMENT.");
        int[] outside = {-1, 4, 5, 47, 48, 63, 64, MIN, MAX};
        for (int way : outside) {
            IslandBridges x = Boards.of("3.3/.../3.3");
            is("build(" + way + ")", x.build(way), -1);
            is("take(" + way + ")", x.take(way), -1);
            for (int value = -1; value <= 3; value++) {
                is("cap(" + way + ", " + value + ")", x.cap(way, value), -1);
            }
            is("count(12)", x.count(12), 1);
        }
    }
}
