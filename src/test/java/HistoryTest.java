/** Promise 20, and each sentence about changes and the history that names an edge. */
public final class HistoryTest {
    private static final Due DUE = new Due("HistoryTest");
    private static final int CHANGES = 12;

    /** A call, or several ones that count as one. */
    private interface Call {
        int on(IslandBridges board);
    }

    private static void is(String call, long got, long want) {
        DUE.is(call, got, want);
    }

    public static void main(String[] args) {
        emptyHistory();
        atMostFourStates();
        theOldestIsDropped();
        everyChangeRecords();
        changesThatAlterNothingRecord();
        asksRecordNothing();
        refusedChangesRecordNothing();
        theTextIsNotRecorded();
        everythingElseIsRecorded();
        undoIsNoChange();
        changesBehindUndo();
        stepsIsOneChange();
        DUE.end();
    }

    /** 5 x 3 cells; the history is full, and each change of change() is possible. */
    private static IslandBridges scene() {
        IslandBridges x = Boards.of("3.2.2/...../3.3.1");
        x.build(0);
        x.build(4);
        x.cap(2, 1);
        Boards.write(x, "1.1/.../1.1");
        return x;
    }

    private static int change(IslandBridges x, int kind) {
        switch (kind) {
            case 0: return x.begin(3, 12);
            case 1: return x.island(7, 3);
            case 2: return x.removeIsland(0);
            case 3: return x.build(1);
            case 4: return x.take(0);
            case 5: return x.cap(3, 0);
            case 6: return x.clear();
            case 7: return x.step();
            case 8: return x.steps(200);
            case 9: return x.make(65535, 24);
            case 10: return x.load();
            default: return x.island(0, 4);
        }
    }

    private static IslandBridges behind(IslandBridges board, Call call) {
        call.on(board);
        return board;
    }

    private static void emptyHistory() {
        DUE.by("Returns the number of states that are left in the history; NOT_POSSIBLE if it is empty.");
        IslandBridges x = new IslandBridges();
        is("new: undo()", x.undo(), -2);
        is("new: count(12)", x.count(12), 0);
        x.island(0, 1);
        is("one change: undo()", x.undo(), 0);
        is("at(0)", x.at(0), 0);
        is("undo() again", x.undo(), -2);
        is("undo() once more", x.undo(), -2);
        is("count(12)", x.count(12), 0);
        IslandBridges full = scene();
        for (int left = 3; left >= 0; left--) {
            is("full: undo()", full.undo(), left);
        }
        is("full: a fifth undo()", full.undo(), -2);
        is("full: count(2)", full.count(2), 0);
        is("full: count(0)", full.count(0), 7);
    }

    private static void atMostFourStates() {
        DUE.by("A history of at most 4 states is kept:");
        for (int changes = 0; changes <= 9; changes++) {
            IslandBridges x = new IslandBridges();
            for (int cell = 0; cell < changes; cell++) {
                x.island(cell, 1);
            }
            int kept = Math.min(4, changes);
            is(changes + " changes: count(12)", x.count(12), kept);
            for (int back = 1; back <= kept; back++) {
                is(changes + " changes: undo()", x.undo(), kept - back);
                is(changes + " changes: count(2)", x.count(2), changes - back);
                is(changes + " changes: count(12)", x.count(12), kept - back);
            }
            is(changes + " changes: undo() of an empty history", x.undo(), -2);
            is(changes + " changes: count(2)", x.count(2), changes - kept);
        }
    }

    private static void theOldestIsDropped() {
        DUE.by("if there are 5 states then, the oldest one is dropped.");
        IslandBridges x = Boards.of("4.4/.../4.4");
        x.build(0);
        x.build(0);
        x.build(1);
        is("count(12) with four", x.count(12), 4);
        x.build(1);
        is("count(12) with a fifth", x.count(12), 4);
        int[] bridges = {3, 2, 1, 0};
        for (int back = 0; back < 4; back++) {
            is("undo()", x.undo(), 3 - back);
            is("count(4)", x.count(4), bridges[back]);
        }
        is("undo() of what was dropped", x.undo(), -2);
        is("the board stays", x.count(2), 4);
    }

    private static void everyChangeRecords() {
        DUE.by("The changes are the calls of begin, island, removeIsland, build, take, cap, clear, step, steps, make and load that "
            + "return no error.");
        for (int kind = 0; kind < CHANGES; kind++) {
            IslandBridges x = scene();
            x.undo();
            x.undo();
            x.build(4);
            String before = Boards.pictureOfState(x);
            is("count(12)", x.count(12), 3);
            int answer = change(x, kind);
            is("kind " + kind + " is possible: " + answer, answer >= 0 ? 1 : 0, 1);
            is("kind " + kind + ": count(12)", x.count(12), 4);
            is("kind " + kind + ": it alters the board", before.equals(Boards.pictureOfState(x)) ? 1 : 0, 0);
            is("kind " + kind + ": undo()", x.undo(), 3);
            DUE.isSame("kind " + kind, Boards.pictureOfState(x), before);
        }
    }

    private static void records(String name, IslandBridges x, Call call, int want) {
        String before = Boards.pictureOfState(x);
        int states = x.count(12);
        is(name, call.on(x), want);
        is(name + ": count(12)", x.count(12), states + 1);
        DUE.isSame(name + " alters nothing else", Boards.pictureOfState(x), before);
        is(name + ": undo()", x.undo(), states);
        DUE.isSame(name + " undone", Boards.pictureOfState(x), before);
    }

    private static void changesThatAlterNothingRecord() {
        records("begin(7, 7) on the empty board", new IslandBridges(), x -> x.begin(7, 7), 0);
        records("island(0, 2), the same number", Boards.of("2.2/.../..."), x -> x.island(0, 2), 1);
        records("cap(0, 2), the same cap", Boards.of("2.2/.../..."), x -> x.cap(0, 2), 2);
        records("clear() without bridges", Boards.of("2.2/.../..."), x -> x.clear(), 0);
        records("clear() on the empty board", new IslandBridges(), x -> x.clear(), 0);
        records("steps(1) on the empty board", new IslandBridges(), x -> x.steps(1), 0);
        records("steps(200) on a broken board", Boards.of("3.3/.../..."), x -> x.steps(200), 0);
        IslandBridges made = new IslandBridges();
        made.make(0, 2);
        records("make(0, 2) again", made, x -> x.make(0, 2), 2);
        IslandBridges loaded = Boards.of("2.2/.../...");
        Boards.write(loaded, "2.2/.../...");
        records("load() again", loaded, x -> x.load(), 2);
    }

    private static void asksRecordNothing() {
        Call[] asks = {
            x -> x.at(1), x -> x.islandInfo(0, 5), x -> x.way(0, 7), x -> x.between(0, 2), x -> x.count(6), x -> x.hint(),
            x -> x.solutions(), x -> x.inAll(0), x -> x.fault(0), x -> x.fault(1)
        };
        for (int place = 0; place < asks.length; place++) {
            Call ask = asks[place];
            DUE.isSame("ask " + place, Boards.unwound(() -> behind(scene(), ask)), Boards.unwound(() -> scene()));
        }
        IslandBridges x = scene();
        x.undo();
        is("count(12)", x.count(12), 3);
        for (int place = 0; place < asks.length; place++) {
            asks[place].on(x);
            is("ask " + place + ": count(12)", x.count(12), 3);
        }
        x.type('.');
        is("type: count(12)", x.count(12), 3);
        x.clearText();
        is("clearText: count(12)", x.count(12), 3);
    }

    private static void refusedChangesRecordNothing() {
        DUE.by("A call that returns an error changes nothing.");
        Call[] refused = {
            x -> x.begin(2, 3), x -> x.island(15, 1), x -> x.removeIsland(1), x -> x.build(7), x -> x.take(3),
            x -> x.cap(0, 0), x -> x.steps(0), x -> x.make(0, 1)
        };
        for (int place = 0; place < refused.length; place++) {
            Call call = refused[place];
            IslandBridges x = behind(scene(), y -> y.undo());
            is("refused " + place, call.on(x) < 0 ? 1 : 0, 1);
            is("refused " + place + ": count(12)", x.count(12), 3);
            String want = Boards.unwound(() -> behind(scene(), y -> y.undo()));
            DUE.isSame("refused " + place, Boards.unwound(() -> behind(behind(scene(), y -> y.undo()), call)), want);
        }
        IslandBridges broken = Boards.of("3.3/.../...");
        is("step() of a broken board", broken.step(), -2);
        is("load() of a fault", broken.load(), -2);
        is("count(12)", broken.count(12), 1);
    }

    private static void theTextIsNotRecorded() {
        DUE.by("each change records everything before it but the text");
        IslandBridges x = new IslandBridges();
        Boards.write(x, "1.1/.../...");
        x.island(0, 1);
        x.clearText();
        Boards.write(x, "22");
        is("undo()", x.undo(), 0);
        is("count(13)", x.count(13), 2);
        is("fault(0)", x.fault(0), 2);
        x.load();
        is("no change by a text with a fault", x.count(12), 0);
        Boards.write(x, "2/.../...");
        is("load()", x.load(), 3);
        is("undo()", x.undo(), 0);
        is("the text of load stays", x.count(13), 11);
        is("load() again", x.load(), 3);
        for (int kind = 0; kind < CHANGES; kind++) {
            IslandBridges y = scene();
            change(y, kind);
            is("kind " + kind + ": count(13)", y.count(13), 11);
            y.type('!');
            y.undo();
            is("kind " + kind + " undone: count(13)", y.count(13), 12);
            is("kind " + kind + " undone: fault(0)", y.fault(0), 11);
        }
    }

    private static void everythingElseIsRecorded() {
        IslandBridges x = new IslandBridges();
        x.begin(3, 12);
        x.make(0, 2);
        x.begin(12, 3);
        x.make(1, 2);
        int[] columns = {12, 3, 3, 7};
        int[] rows = {3, 12, 12, 7};
        int[] islands = {0, 2, 0, 0};
        for (int back = 0; back < 4; back++) {
            x.undo();
            is("count(0)", x.count(0), columns[back]);
            is("count(1)", x.count(1), rows[back]);
            is("count(2)", x.count(2), islands[back]);
            is("at(last)", x.at(columns[back] * rows[back] - 1), 0);
            is("at(behind)", x.at(columns[back] * rows[back]), -1);
        }
        IslandBridges y = Boards.of("1.1/.../1.1");
        y.steps(5);
        y.cap(3, 0);
        y.clear();
        y.undo();
        is("its grade", y.count(10), 4);
        is("its steps", y.count(11), 5);
        is("its caps", y.way(0, 3) * 100 + y.way(1, 3) * 10 + y.way(3, 3), 10);
        y.undo();
        is("its caps", y.way(0, 3) * 100 + y.way(1, 3) * 10 + y.way(3, 3), 11);
        y.undo();
        is("its caps", y.way(0, 3) * 100 + y.way(1, 3) * 10 + y.way(3, 3), 222);
        is("its steps", y.count(11), 0);
    }

    private static void undoIsNoChange() {
        DUE.by("Restores the latest state of the history, which is removed from it.");
        IslandBridges x = Boards.of("4.4/.../4.4");
        x.build(0);
        x.build(1);
        is("undo()", x.undo(), 2);
        is("at(1)", x.at(1), 11);
        is("at(3)", x.at(3), 0);
        is("undo() of undo is none", x.undo(), 1);
        is("at(1)", x.at(1), 0);
        is("undo()", x.undo(), 0);
        is("count(2)", x.count(2), 0);
        is("undo()", x.undo(), -2);
    }

    private static void changesBehindUndo() {
        IslandBridges x = new IslandBridges();
        for (int cell = 0; cell < 6; cell++) {
            x.island(cell, 1);
        }
        x.undo();
        x.undo();
        x.undo();
        is("count(12)", x.count(12), 1);
        is("count(2)", x.count(2), 3);
        for (int cell = 10; cell < 15; cell++) {
            x.island(cell, 2);
        }
        is("count(12) then", x.count(12), 4);
        is("count(2) then", x.count(2), 8);
        for (int back = 1; back <= 4; back++) {
            is("undo()", x.undo(), 4 - back);
            is("count(2)", x.count(2), 8 - back);
        }
        is("at(10)", x.at(10), 2);
        is("at(11)", x.at(11), 0);
        is("at(2)", x.at(2), 1);
        is("at(3)", x.at(3), 0);
        is("undo()", x.undo(), -2);
    }

    private static void stepsIsOneChange() {
        IslandBridges x = Boards.of("1.1/.../1.1");
        is("steps(200)", x.steps(200), 8);
        is("count(12)", x.count(12), 2);
        is("undo()", x.undo(), 1);
        is("count(11)", x.count(11), 0);
        is("hint()", x.hint(), 200);
        for (int step = 0; step < 3; step++) {
            x.step();
        }
        is("three of step()", x.count(12), 4);
        is("undo()", x.undo(), 3);
        is("count(11)", x.count(11), 2);
    }
}
