import java.util.Random;

/** Long runs of calls, each answer compared with that of the model; all promises. */
public final class ModelTest {
    private static final Due DUE = new Due("ModelTest");
    private static final int RUNS = 400;
    private static final int CALLS = 512;
    /** A text takes at most so many calls. */
    private static final int CALLS_OF_A_TEXT = 330;

    private final int run;
    private final Random random;
    private final IslandBridges board = new IslandBridges();
    private final Model model = new Model();
    private int calls;

    private ModelTest(int run) {
        this.run = run;
        random = new Random(run);
    }

    public static void main(String[] args) {
        int runs = args.length > 0 ? Integer.parseInt(args[0]) : RUNS;
        int first = args.length > 1 ? Integer.parseInt(args[1]) : 0;
        for (int run = first; run < first + runs; run++) {
            new ModelTest(run).go();
        }
        DUE.end();
    }

    private void go() {
        if (random.nextInt(3) > 0) {
            int columns = 3 + random.nextInt(5);
            int rows = 3 + random.nextInt(5);
            is("begin(" + columns + ", " + rows + ")", board.begin(columns, rows), model.begin(columns, rows));
        }
        int kind = run % 4;
        while (calls < CALLS) {
            int what = random.nextInt(100);
            if (kind == 0 && what < 30 || what < 4) {
                changeIslands();
            } else if (kind == 1 && what < 8 || what < 6) {
                make();
            } else if ((kind == 2 && what < 30 || what < 8) && calls <= CALLS - CALLS_OF_A_TEXT) {
                useText();
            } else if (what < 70) {
                change();
            } else {
                ask();
            }
        }
    }

    private void is(String call, int got, int want) {
        calls++;
        DUE.is("run " + run + ", call " + calls + ": " + call, got, want);
    }

    /** Mostly a number below the bound, sometimes one out of range. */
    private int about(int bound) {
        int[] odd = {-1, bound, bound + 1, Integer.MIN_VALUE, Integer.MAX_VALUE, -2, 1000};
        return bound < 1 || random.nextInt(25) == 0 ? odd[random.nextInt(odd.length)] : random.nextInt(bound);
    }

    private int cell() {
        return about(model.count(0) * model.count(1));
    }

    /** Mostly the cell of an island. */
    private int islandCell() {
        int cell = cell();
        for (int tries = 0; tries < 20 && model.islandInfo(cell, 0) < 0; tries++) {
            cell = cell();
        }
        return cell;
    }

    private int way() {
        return about(model.count(3));
    }

    private void changeIslands() {
        int cell = cell();
        switch (random.nextInt(20)) {
            case 0:
                int columns = 3 + about(10);
                int rows = 3 + about(10);
                is("begin(" + columns + ", " + rows + ")", board.begin(columns, rows), model.begin(columns, rows));
                break;
            case 1: case 2: case 3: case 4:
                cell = islandCell();
                is("removeIsland(" + cell + ")", board.removeIsland(cell), model.removeIsland(cell));
                break;
            default:
                int number = random.nextInt(4) == 0 ? about(9) : 1 + random.nextInt(4);
                is("island(" + cell + ", " + number + ")", board.island(cell, number), model.island(cell, number));
                break;
        }
    }

    private void make() {
        int seed = about(65536);
        int islands = random.nextInt(3) == 0 ? about(25) : 4 + random.nextInt(8);
        is("make(" + seed + ", " + islands + ")", board.make(seed, islands), model.make(seed, islands));
    }

    private void type(int character) {
        is("type(" + character + ")", board.type(character), model.type(character));
        if (random.nextInt(3) == 0) {
            int what = random.nextInt(2);
            is("fault(" + what + ")", board.fault(what), model.fault(what));
        }
    }

    private void useText() {
        if (random.nextInt(2) == 0) {
            is("clearText()", board.clearText(), model.clearText());
        }
        int columns = 3 + random.nextInt(random.nextInt(4) == 0 ? 11 : 3);
        int rows = 3 + random.nextInt(random.nextInt(4) == 0 ? 11 : 3);
        int dense = 1 + random.nextInt(5);
        for (int row = 0; row < rows; row++) {
            for (int column = 0; column < columns; column++) {
                boolean isIsland = random.nextInt(6) < dense;
                type(random.nextInt(300) == 0 ? 30 + random.nextInt(100) : isIsland ? '1' + random.nextInt(4) : '.');
            }
            if (row < rows - 1 || random.nextInt(10) == 0) {
                type(random.nextInt(50) == 0 ? '.' : '/');
            }
        }
        is("fault(0)", board.fault(0), model.fault(0));
        is("fault(1)", board.fault(1), model.fault(1));
        is("load()", board.load(), model.load());
    }

    private void change() {
        int way = way();
        switch (random.nextInt(14)) {
            case 0: case 1: case 2:
                is("build(" + way + ")", board.build(way), model.build(way));
                break;
            case 3:
                is("take(" + way + ")", board.take(way), model.take(way));
                break;
            case 4: case 5:
                int value = about(3);
                is("cap(" + way + ", " + value + ")", board.cap(way, value), model.cap(way, value));
                break;
            case 6:
                if (random.nextInt(3) == 0) {
                    is("clear()", board.clear(), model.clear());
                }
                break;
            case 7: case 8: case 9:
                is("step()", board.step(), model.step());
                break;
            case 10:
                int most = random.nextInt(2) == 0 ? about(201) : 1 + random.nextInt(5);
                is("steps(" + most + ")", board.steps(most), model.steps(most));
                break;
            case 11: case 12:
                is("undo()", board.undo(), model.undo());
                break;
            default:
                is("hint()", board.hint(), model.hint());
                break;
        }
    }

    private void ask() {
        int cell = islandCell();
        int way = way();
        switch (random.nextInt(8)) {
            case 0:
                is("solutions()", board.solutions(), model.solutions());
                break;
            case 1:
                is("inAll(" + way + ")", board.inAll(way), model.inAll(way));
                break;
            case 2:
                int other = islandCell();
                is("between(" + cell + ", " + other + ")", board.between(cell, other), model.between(cell, other));
                break;
            case 3:
                int property = about(6);
                String info = "islandInfo(" + cell + ", " + property + ")";
                is(info, board.islandInfo(cell, property), model.islandInfo(cell, property));
                break;
            case 4:
                int ofWay = about(8);
                is("way(" + way + ", " + ofWay + ")", board.way(way, ofWay), model.way(way, ofWay));
                break;
            case 5:
                int place = cell();
                is("at(" + place + ")", board.at(place), model.at(place));
                break;
            default:
                int what = about(14);
                is("count(" + what + ")", board.count(what), model.count(what));
                break;
        }
    }
}
