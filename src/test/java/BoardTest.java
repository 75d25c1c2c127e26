/** Promises 1 to 9: the board. */
public final class BoardTest {
    private static final Due DUE = new Due("BoardTest");

    private static void is(String call, long got, long want) {
        DUE.is(call, got, want);
    }

    public static void main(String[] args) {
        newObject();
        begin();
        island();
        islandLimit();
        removeIsland();
        changesOfIslandsTakeBridges();
        at();
        islandInfo();
        wayNumbers();
        way();
        reasonsInOrder();
        between();
        count();
        solvedAndGroups();
        DUE.end();
    }

    private static void newObject() {
        IslandBridges x = new IslandBridges();
        int[] want = {7, 7, 0, 0, 0, 0, 0, 0, 0, 0, 0, 0, 0, 0};
        for (int what = 0; what < want.length; what++) {
            is("new: count(" + what + ")", x.count(what), want[what]);
        }
        for (int cell = 0; cell < 49; cell++) {
            is("new: at(" + cell + ")", x.at(cell), 0);
        }
        is("new: at(49)", x.at(49), -1);
        is("new: undo()", x.undo(), -2);
        is("new: way(0, 0)", x.way(0, 0), -1);
    }

    private static void begin() {
        IslandBridges x = new IslandBridges();
        x.island(0, 1);
        x.island(48, 1);
        is("begin(2, 7)", x.begin(2, 7), -1);
        is("begin(7, 2)", x.begin(7, 2), -1);
        is("begin(13, 7)", x.begin(13, 7), -1);
        is("begin(7, 13)", x.begin(7, 13), -1);
        is("begin(min, max)", x.begin(Integer.MIN_VALUE, Integer.MAX_VALUE), -1);
        is("count(2) after errors", x.count(2), 2);
        is("count(12) after errors", x.count(12), 2);
        is("begin(3, 12)", x.begin(3, 12), 2);
        is("count(0)", x.count(0), 3);
        is("count(1)", x.count(1), 12);
        is("count(2)", x.count(2), 0);
        is("at(35)", x.at(35), 0);
        is("at(36)", x.at(36), -1);
        is("begin(12, 3)", x.begin(12, 3), 0);
        is("island(12, 1)", x.island(12, 1), 0);
        is("island(11, 1): no way over the edge", x.island(11, 1), 0);
        is("count(12)", x.count(12), 4);
        is("begin(12, 12)", x.begin(12, 12), 2);
        is("island(143, 8)", x.island(143, 8), 0);
        is("begin(12, 12), same size", x.begin(12, 12), 1);
        is("at(143)", x.at(143), 0);
    }

    private static void island() {
        IslandBridges x = new IslandBridges();
        is("island(-1, 1)", x.island(-1, 1), -1);
        is("island(49, 1)", x.island(49, 1), -1);
        is("island(0, 0)", x.island(0, 0), -1);
        is("island(0, 9)", x.island(0, 9), -1);
        is("count(12) after errors", x.count(12), 0);
        is("island(0, 1)", x.island(0, 1), 0);
        is("island(6, 8)", x.island(6, 8), 1);
        is("island(3, 2) parts a way", x.island(3, 2), 2);
        is("island(4, 2), next to another", x.island(4, 2), 3);
        is("island(4, 2) again", x.island(4, 2), 3);
        is("count(2)", x.count(2), 4);
        is("at(6)", x.at(6), 8);
        is("count(9)", x.count(9), 13);
    }

    private static void islandLimit() {
        IslandBridges x = new IslandBridges();
        for (int cell = 0; cell < 24; cell++) {
            is("island no. " + cell, x.island(cell, 1) >= 0 ? 1 : 0, 1);
        }
        is("count(2)", x.count(2), 24);
        is("count(3)", x.count(3), 37);
        is("island(24, 1)", x.island(24, 1), -3);
        is("island(24, 9)", x.island(24, 9), -1);
        is("island(49, 1)", x.island(49, 1), -1);
        is("island(23, 5) at the limit", x.island(23, 5), 37);
        is("at(23)", x.at(23), 5);
        is("removeIsland(0)", x.removeIsland(0), 1);
        is("island(24, 1) after a removal", x.island(24, 1), 37);
        is("island(0, 1)", x.island(0, 1), -3);
    }

    private static void removeIsland() {
        IslandBridges x = Boards.of("1.2/.../3.4");
        is("removeIsland(-1)", x.removeIsland(-1), -1);
        is("removeIsland(9)", x.removeIsland(9), -1);
        is("removeIsland(4)", x.removeIsland(4), -4);
        is("count(12)", x.count(12), 1);
        is("removeIsland(2)", x.removeIsland(2), 2);
        is("count(2)", x.count(2), 3);
        is("count(3)", x.count(3), 2);
        is("removeIsland(2) again", x.removeIsland(2), -4);
        is("count(12)", x.count(12), 2);
        is("between(6, 8)", x.between(6, 8), 1);
    }

    private static void changesOfIslandsTakeBridges() {
        for (int kind = 0; kind < 6; kind++) {
            IslandBridges x = Boards.of("2.2/.../2.2");
            x.build(0);
            x.cap(1, 1);
            x.cap(2, 0);
            x.step();
            is("kind " + kind + ": grade ahead", x.count(10) > 0 ? 1 : 0, 1);
            is("kind " + kind + ": bridges ahead", x.count(4) > 0 ? 1 : 0, 1);
            switch (kind) {
                case 0: x.island(0, 2); break;
                case 1: x.island(0, 1); break;
                case 2: x.island(4, 1); break;
                case 3: x.removeIsland(0); break;
                case 4: Boards.write(x, "2.2/.../2.2"); x.load(); break;
                default: x.make(5, 9); break;
            }
            is("kind " + kind + ": count(4)", x.count(4), 0);
            is("kind " + kind + ": count(10)", x.count(10), 0);
            is("kind " + kind + ": count(11)", x.count(11), 0);
            for (int way = 0; way < x.count(3); way++) {
                is("kind " + kind + ": way(" + way + ", 3)", x.way(way, 3), 2);
            }
        }
    }

    private static void at() {
        IslandBridges x = Boards.of("3..1/..../..../4..8");
        x.build(0);
        x.build(1);
        x.build(1);
        is("at(-1)", x.at(-1), -1);
        is("at(16)", x.at(16), -1);
        is("at(0)", x.at(0), 3);
        is("at(1)", x.at(1), 11);
        is("at(2)", x.at(2), 11);
        is("at(4)", x.at(4), 22);
        is("at(8)", x.at(8), 22);
        is("at(5)", x.at(5), 0);
        is("at(7)", x.at(7), 0);
        is("at(15)", x.at(15), 8);
        x.build(3);
        x.build(3);
        is("at(13)", x.at(13), 12);
        x.take(1);
        is("at(4) after take", x.at(4), 21);
    }

    private static void islandInfo() {
        IslandBridges x = Boards.of("3.1/.../2.4");
        x.build(1);
        x.cap(0, 1);
        is("islandInfo(-1, 0)", x.islandInfo(-1, 0), -1);
        is("islandInfo(9, 0)", x.islandInfo(9, 0), -1);
        is("islandInfo(0, -1)", x.islandInfo(0, -1), -1);
        is("islandInfo(0, 6)", x.islandInfo(0, 6), -1);
        is("islandInfo(4, 6)", x.islandInfo(4, 6), -1);
        is("islandInfo(4, 0)", x.islandInfo(4, 0), -4);
        int[][] want = {{3, 1, 2, 2, 3, 0}, {1, 0, 1, 2, 3, 1}, {2, 1, 1, 2, 4, 0}, {4, 0, 4, 2, 4, 2}};
        int[] cells = {0, 2, 6, 8};
        for (int island = 0; island < 4; island++) {
            for (int what = 0; what <= 5; what++) {
                is("islandInfo(" + cells[island] + ", " + what + ")", x.islandInfo(cells[island], what), want[island][what]);
            }
        }
    }

    private static void wayNumbers() {
        IslandBridges x = Boards.of("11.1/.1.1/1.../1..1");
        int[][] want = {{0, 1}, {0, 8}, {1, 3}, {1, 5}, {3, 7}, {5, 7}, {7, 15}, {8, 12}, {12, 15}};
        is("count(3)", x.count(3), want.length);
        for (int way = 0; way < want.length; way++) {
            is("way(" + way + ", 0)", x.way(way, 0), want[way][0]);
            is("way(" + way + ", 1)", x.way(way, 1), want[way][1]);
        }
        int[] cellsBetween = {0, 1, 1, 0, 0, 1, 1, 0, 2};
        for (int way = 0; way < want.length; way++) {
            is("way(" + way + ", 4)", x.way(way, 4), cellsBetween[way]);
        }
    }

    private static void way() {
        IslandBridges x = Boards.of(".1.1./2...2/...../2...2/.1.1.");
        is("count(3)", x.count(3), 8);
        is("way(-1, 0)", x.way(-1, 0), -1);
        is("way(8, 0)", x.way(8, 0), -1);
        is("way(0, -1)", x.way(0, -1), -1);
        is("way(0, 8)", x.way(0, 8), -1);
        is("way(1, 0)", x.way(1, 0), 1);
        is("way(1, 1)", x.way(1, 1), 21);
        is("way(1, 4)", x.way(1, 4), 3);
        is("way(1, 5)", x.way(1, 5), 2);
        is("way(1, 6)", x.way(1, 6), 0);
        is("way(0, 5)", x.way(0, 5), 0);
        is("way(3, 0)", x.way(3, 0), 5);
        is("way(3, 1)", x.way(3, 1), 9);
        is("way(3, 5)", x.way(3, 5), 2);
        is("build(3)", x.build(3), 1);
        is("way(1, 6)", x.way(1, 6), 1);
        is("way(2, 6)", x.way(2, 6), 1);
        is("way(1, 7)", x.way(1, 7), 3);
        is("way(4, 7)", x.way(4, 7), 0);
        is("build(1)", x.build(1), -2);
        is("way(3, 2)", x.way(3, 2), 1);
        is("way(3, 3)", x.way(3, 3), 2);
        is("build(6)", x.build(6), 1);
        is("way(1, 6) with two", x.way(1, 6), 2);
        IslandBridges touching = Boards.of(".1./111/.1.");
        for (int way = 0; way < touching.count(3); way++) {
            is("an island is no crossing: way(" + way + ", 5)", touching.way(way, 5), 0);
        }
    }

    private static void reasonsInOrder() {
        IslandBridges x = Boards.of(".2./2.2/.2.");
        is("count(3)", x.count(3), 2);
        is("none", x.way(0, 7), 0);
        x.build(0);
        is("4 is not yet", x.way(0, 7), 0);
        is("3 ahead of none", x.way(1, 7), 3);
        x.cap(1, 0);
        is("2 ahead of 3", x.way(1, 7), 2);
        x.build(0);
        is("1 ahead of 2 and 4", x.way(0, 7), 1);
        x.take(0);
        x.take(0);
        x.cap(1, 2);
        is("none again", x.way(1, 7), 0);
        IslandBridges y = Boards.of("1.2/.../...");
        y.build(0);
        is("4 by one island", y.way(0, 7), 4);
        y.cap(0, 1);
        is("2 ahead of 4", y.way(0, 7), 2);
        IslandBridges z = Boards.of(".1.1/2.2./.2../....");
        z.build(z.between(4, 6));
        z.build(z.between(1, 3));
        is("3 ahead of 4", z.way(z.between(1, 9), 7), 3);
    }

    private static void between() {
        IslandBridges x = Boards.of("1.1.1/...../1...1");
        is("between(-1, 0)", x.between(-1, 0), -1);
        is("between(0, 15)", x.between(0, 15), -1);
        is("between(0, 2)", x.between(0, 2), 0);
        is("between(2, 0)", x.between(2, 0), 0);
        is("between(0, 4): one between", x.between(0, 4), -4);
        is("between(0, 10)", x.between(0, 10), 1);
        is("between(10, 14)", x.between(10, 14), 4);
        is("between(0, 0)", x.between(0, 0), -4);
        is("between(0, 1)", x.between(0, 1), -4);
        is("between(5, 6)", x.between(5, 6), -4);
        is("between(2, 14)", x.between(2, 14), -4);
    }

    private static void count() {
        IslandBridges x = Boards.of("2.3.1/...../2...2");
        x.type('1');
        is("count(-1)", x.count(-1), -1);
        is("count(14)", x.count(14), -1);
        is("build(0)", x.build(0), 1);
        is("build(1)", x.build(1), 1);
        int[] want = {5, 3, 5, 5, 2, 1, 3, 0, 0, 10, 0, 0, 3, 1};
        for (int what = 0; what < want.length; what++) {
            is("count(" + what + ")", x.count(what), want[what]);
        }
        IslandBridges alone = new IslandBridges();
        alone.island(3, 1);
        is("an island alone is broken", alone.count(8), 1);
        is("an island alone is a group", alone.count(6), 1);
        is("an island alone is not solved", alone.count(7), 0);
        IslandBridges pair = Boards.of("3.3/.../...");
        is("two lonely islands of 3 are broken", pair.count(8), 1);
        pair.island(0, 2);
        pair.island(2, 2);
        is("two lonely islands of 2 are not", pair.count(8), 0);
        pair.cap(0, 1);
        is("with a cap of 1 they are", pair.count(8), 1);
    }

    private static void solvedAndGroups() {
        IslandBridges x = Boards.of("1.1/.../1.1");
        x.build(0);
        is("count(6)", x.count(6), 3);
        x.build(3);
        is("two groups", x.count(6), 2);
        is("all complete", x.count(5), 4);
        is("but not solved", x.count(7), 0);
        is("group of 0", x.islandInfo(0, 5), 0);
        is("group of 2", x.islandInfo(2, 5), 0);
        is("group of 6", x.islandInfo(6, 5), 1);
        is("group of 8", x.islandInfo(8, 5), 1);
        IslandBridges y = Boards.of("1.1/.../2.2");
        y.build(1);
        y.build(2);
        is("group of 2", y.islandInfo(2, 5), 1);
        is("group of 6", y.islandInfo(6, 5), 0);
        is("not solved yet", y.count(7), 0);
        y.build(3);
        is("solved", y.count(7), 1);
        is("one group", y.count(6), 1);
    }
}
