/** Promises 10 to 13: building, and promise 20: undo. */
public final class BuildingTest {
    private static final Due DUE = new Due("BuildingTest");

    private static void is(String call, long got, long want) {
        DUE.is(call, got, want);
    }

    public static void main(String[] args) {
        build();
        take();
        cap();
        clear();
        undo();
        undoOfEveryChange();
        errorsChangeNothing();
        DUE.end();
    }

    private static void build() {
        IslandBridges x = Boards.of("4.3/.../2.3");
        is("build(-1)", x.build(-1), -1);
        is("build(4)", x.build(4), -1);
        is("build(0)", x.build(0), 1);
        is("build(0)", x.build(0), 2);
        is("build(0)", x.build(0), -2);
        is("way(0, 7)", x.way(0, 7), 1);
        is("cap(1, 1)", x.cap(1, 1), 2);
        is("build(1)", x.build(1), 1);
        is("build(1) at its cap", x.build(1), -2);
        is("cap(1, 2)", x.cap(1, 2), 1);
        is("build(1)", x.build(1), 2);
        is("build(3): 6 is complete", x.build(3), -2);
        is("way(3, 7)", x.way(3, 7), 4);
        is("build(2)", x.build(2), 1);
        is("count(4)", x.count(4), 5);
    }

    private static void take() {
        IslandBridges x = Boards.of("2.2/.../...");
        is("take(0)", x.take(0), -2);
        is("take(1)", x.take(1), -1);
        is("take(-1)", x.take(-1), -1);
        x.build(0);
        x.build(0);
        is("take(0)", x.take(0), 1);
        x.cap(0, 1);
        is("take(0)", x.take(0), 0);
        is("its cap stays", x.way(0, 3), 1);
        is("take(0)", x.take(0), -2);
    }

    private static void cap() {
        IslandBridges x = Boards.of("2.2/.../...");
        is("cap(-1, 0)", x.cap(-1, 0), -1);
        is("cap(1, 0)", x.cap(1, 0), -1);
        is("cap(0, -1)", x.cap(0, -1), -1);
        is("cap(0, 3)", x.cap(0, 3), -1);
        is("cap(0, 0)", x.cap(0, 0), 2);
        is("cap(0, 1)", x.cap(0, 1), 0);
        x.build(0);
        is("cap(0, 0)", x.cap(0, 0), -2);
        is("cap(0, 1)", x.cap(0, 1), 1);
        is("cap(0, 2)", x.cap(0, 2), 1);
        x.build(0);
        is("cap(0, 1)", x.cap(0, 1), -2);
        is("cap(0, 2)", x.cap(0, 2), 2);
        is("way(0, 3)", x.way(0, 3), 2);
    }

    private static void clear() {
        IslandBridges x = Boards.of("3.2/.../3.2");
        is("clear() without bridges", x.clear(), 0);
        is("is a change", x.count(12), 2);
        x.build(0);
        x.build(1);
        x.build(1);
        x.cap(2, 0);
        x.step();
        is("count(11)", x.count(11), 1);
        is("clear()", x.clear(), 3);
        is("count(4)", x.count(4), 0);
        is("count(10)", x.count(10), 0);
        is("count(11)", x.count(11), 0);
        is("way(2, 3)", x.way(2, 3), 2);
        is("count(2)", x.count(2), 4);
        IslandBridges y = Boards.of("1.2/.../1.2");
        is("step()", y.step(), 200);
        is("no bridges by it", y.count(4), 0);
        is("clear()", y.clear(), 0);
        is("grade by clear without bridges", y.count(10), 0);
        is("steps by clear without bridges", y.count(11), 0);
        is("way(0, 3) by clear", y.way(0, 3), 2);
    }

    private static void undo() {
        IslandBridges x = new IslandBridges();
        for (int cell = 0; cell < 6; cell++) {
            x.island(cell, 1);
        }
        is("count(12)", x.count(12), 4);
        is("undo()", x.undo(), 3);
        is("count(2)", x.count(2), 5);
        is("count(12)", x.count(12), 3);
        is("undo()", x.undo(), 2);
        is("undo()", x.undo(), 1);
        is("undo()", x.undo(), 0);
        is("count(2)", x.count(2), 2);
        is("undo()", x.undo(), -2);
        is("count(2)", x.count(2), 2);
        x.begin(3, 4);
        is("count(12)", x.count(12), 1);
        is("undo()", x.undo(), 0);
        is("count(0)", x.count(0), 7);
        is("count(1)", x.count(1), 7);
        is("at(1)", x.at(1), 1);
        x.type('.');
        x.clear();
        x.type('/');
        is("undo()", x.undo(), 0);
        is("the text stays", x.count(13), 2);
    }

    private static void undoOfEveryChange() {
        for (int kind = 0; kind < 12; kind++) {
            IslandBridges x = Boards.of("3.2.2/...../3.3.1");
            x.build(0);
            x.cap(2, 1);
            x.steps(2);
            String before = Boards.pictureOfState(x);
            int answer = change(x, kind);
            DUE.isTrue("kind " + kind + " is a change: " + answer, answer >= 0);
            is("kind " + kind + ": count(12)", x.count(12), 4);
            is("kind " + kind + ": undo()", x.undo(), 3);
            DUE.isTrue("kind " + kind + ": all as before", before.equals(Boards.pictureOfState(x)));
        }
    }

    private static int change(IslandBridges x, int kind) {
        switch (kind) {
            case 0: return x.begin(4, 4);
            case 1: return x.island(7, 3);
            case 2: return x.removeIsland(0);
            case 3: return x.take(0);
            case 4: return x.cap(3, 0);
            case 5: return x.clear();
            case 6: return x.step();
            case 7: return x.steps(200);
            case 8: return x.make(1, 12);
            case 9: Boards.write(x, "111/.../..."); return x.load();
            case 10: return x.build(1);
            default: return x.island(0, 3);
        }
    }

    private static void errorsChangeNothing() {
        IslandBridges x = Boards.of("3.2.2/...../3.3.1");
        x.build(0);
        x.steps(3);
        x.type('?');
        String before = Boards.picture(x);
        int[] answers = {
            x.begin(2, 3), x.begin(3, 13), x.island(15, 1), x.island(0, 0), x.removeIsland(1), x.removeIsland(-5),
            x.at(15), x.islandInfo(1, 0), x.islandInfo(0, 6), x.way(99, 0), x.between(0, 4), x.count(14),
            x.build(-1), x.take(99), x.cap(0, 0), x.cap(0, 3), x.steps(0), x.steps(201), x.inAll(-1),
            x.make(-1, 9), x.make(65536, 9), x.make(0, 1), x.make(0, 25), x.type(31), x.type(127), x.fault(2), x.load()
        };
        for (int place = 0; place < answers.length; place++) {
            DUE.isTrue("error " + place + " answered " + answers[place], answers[place] < 0);
        }
        DUE.isTrue("nothing has changed", before.equals(Boards.picture(x)));
    }
}
