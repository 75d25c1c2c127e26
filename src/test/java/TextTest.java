/** Promises 21 to 24: texts. */
public final class TextTest {
    private static final Due DUE = new Due("TextTest");
    private static final String TWELVE = "............";

    private static void is(String call, long got, long want) {
        DUE.is(call, got, want);
    }

    public static void main(String[] args) {
        type();
        clearText();
        faults();
        faultsInOrder();
        faultArguments();
        load();
        loadEveryNumber();
        DUE.end();
    }

    private static void type() {
        IslandBridges x = new IslandBridges();
        is("type(31)", x.type(31), -1);
        is("type(127)", x.type(127), -1);
        is("type(-1)", x.type(-1), -1);
        is("count(13)", x.count(13), 0);
        is("type(32)", x.type(32), 1);
        is("type(126)", x.type(126), 2);
        is("no change", x.count(12), 0);
        for (int length = 3; length <= 160; length++) {
            is("type(46)", x.type(46), length);
        }
        is("type(46) at 160", x.type(46), -3);
        is("type(31) at 160", x.type(31), -1);
        is("count(13)", x.count(13), 160);
        is("fault(0) at 160", x.fault(0), 0);
    }

    private static void clearText() {
        IslandBridges x = new IslandBridges();
        is("clearText()", x.clearText(), 0);
        Boards.write(x, "12/");
        is("clearText()", x.clearText(), 3);
        is("count(13)", x.count(13), 0);
        is("type(46)", x.type(46), 1);
        is("no change", x.count(12), 0);
    }

    private static void fault(String text, int index, int reason) {
        IslandBridges x = new IslandBridges();
        Boards.write(x, text);
        is("fault(0) of " + text, x.fault(0), index);
        is("fault(1) of " + text, x.fault(1), reason);
        if (reason > 0) {
            is("load() of " + text, x.load(), -2);
            is("no change by " + text, x.count(12), 0);
        }
    }

    private static void faults() {
        fault("", 0, 5);
        fault(".", 1, 5);
        fault("...", 3, 5);
        fault(".../...", 7, 5);
        fault(".../.../", 8, 5);
        fault(".../.../..", 10, 5);
        fault(".../.../...", -4, -4);
        fault(".../.../.../", 12, 5);
        fault(".../.../.../...", -4, -4);
        fault("/", 0, 2);
        fault("../", 2, 2);
        fault("..../.../", 8, 2);
        fault("..././/", 5, 2);
        fault(".../....", 7, 2);
        fault(".../.../...1", 11, 2);
        fault(TWELVE, 12, 5);
        fault(TWELVE + ".", 12, 2);
        fault(TWELVE + "8", 12, 2);
        fault(TWELVE + "/" + TWELVE + ".", 25, 2);
        fault("0", 0, 1);
        fault("9", 0, 1);
        fault("12 ", 2, 1);
        fault("1-2", 1, 1);
        fault("...\\", 3, 1);
        fault("..~", 2, 1);
        fault(rows(12), -4, -4);
        fault(rows(12) + "/", 47, 3);
        fault(rows(13), 47, 3);
        fault("111111111111/111111111111/...........1", 37, 4);
        fault("111111111111/111111111111/............", -4, -4);
        fault("111111111111/111111111111/8", 26, 4);
    }

    private static String rows(int number) {
        StringBuilder text = new StringBuilder("...");
        for (int row = 1; row < number; row++) {
            text.append("/...");
        }
        return text.toString();
    }

    private static void faultsInOrder() {
        fault(TWELVE + "9", 12, 1);
        fault(rows(12).substring(0, 45) + "/", 45, 2);
        fault(rows(12) + ".", 47, 2);
        fault("111111111111/1111111111119", 25, 1);
        fault("111111111111/1111111111111", 25, 2);
        fault("111111111/111111111/111111....", 29, 2);
        fault("111111/111111/111111/1111111", 27, 2);
        fault("1?/", 1, 1);
        fault("./?", 1, 2);
        String lastIsTooLong = "11111111/11111111/111111111";
        fault(lastIsTooLong, 26, 2);
    }

    private static void faultArguments() {
        IslandBridges x = new IslandBridges();
        is("fault(-1)", x.fault(-1), -1);
        is("fault(2)", x.fault(2), -1);
        Boards.write(x, ".../.../...");
        is("fault(2) without a fault", x.fault(2), -1);
        is("fault(0) without a fault", x.fault(0), -4);
        is("fault(1) without a fault", x.fault(1), -4);
    }

    private static void load() {
        IslandBridges x = new IslandBridges();
        x.island(48, 8);
        is("load() of nothing", x.load(), -2);
        Boards.write(x, "1..2/.8../..../4...");
        is("load()", x.load(), 4);
        is("the text stays", x.count(13), 19);
        is("count(0)", x.count(0), 4);
        is("count(1)", x.count(1), 4);
        is("at(0)", x.at(0), 1);
        is("at(3)", x.at(3), 2);
        is("at(5)", x.at(5), 8);
        is("at(12)", x.at(12), 4);
        is("count(9)", x.count(9), 15);
        is("count(12)", x.count(12), 2);
        is("load() again", x.load(), 4);
        is("undo()", x.undo(), 2);
        is("undo()", x.undo(), 1);
        is("at(48)", x.at(48), 8);
        is("the text stays by undo", x.count(13), 19);
        IslandBridges empty = new IslandBridges();
        Boards.write(empty, TWELVE + "/" + TWELVE + "/" + TWELVE);
        is("load() of an empty board", empty.load(), 0);
        is("count(0)", empty.count(0), 12);
        is("count(1)", empty.count(1), 3);
    }

    private static void loadEveryNumber() {
        IslandBridges x = Boards.of("123/456/78.");
        for (int cell = 0; cell < 8; cell++) {
            is("at(" + cell + ")", x.at(cell), cell + 1);
        }
        is("at(8)", x.at(8), 0);
    }
}
