/** Promises 21 to 24: each sentence about texts that names an edge. */
public final class TextEdgesTest {
    private static final Due DUE = new Due("TextEdgesTest");
    private static final int MIN = Integer.MIN_VALUE;
    private static final int MAX = Integer.MAX_VALUE;

    private static void is(String call, long got, long want) {
        DUE.is(call, got, want);
    }

    public static void main(String[] args) {
        typeRanges();
        mostCharacters();
        typeIsNoChange();
        clearTextTells();
        everyFirstCharacter();
        everyCharacterElsewhere();
        firstRowTooShort();
        firstRowTooLong();
        laterRowTooShort();
        laterRowTooLong();
        rowBehindTheTwelfth();
        theTwentyFifthIsland();
        fewerThanThreeRows();
        lastRowTooShort();
        indexIsTheFirstFault();
        firstReasonThatApplies();
        faultRanges();
        faultIsReadAgain();
        loadSizes();
        loadPlaces();
        loadOfAFault();
        loadKeepsTheText();
        loadOfTheEmptyAndTheFullBoard();
        loadIsAChange();
        DUE.end();
    }

    private static void fault(String text, int index, int reason) {
        IslandBridges x = new IslandBridges();
        Boards.write(x, text);
        is("fault(0) of " + text, x.fault(0), index);
        is("fault(1) of " + text, x.fault(1), reason);
        is("count(13) of " + text, x.count(13), text.length());
        is("load() of " + text, x.load() < 0 ? -2 : 0, reason < 0 ? 0 : -2);
    }

    private static void noFault(String text) {
        fault(text, -4, -4);
    }

    private static String row(int length) {
        return ".".repeat(length);
    }

    private static String rows(int number, int length) {
        return (row(length) + "/").repeat(number - 1) + row(length);
    }

    private static void typeRanges() {
        DUE.by("`character`: its code, 32 to 126");
        int[] outside = {31, 127, 0, -1, 10, 128, 256 + 46, 65536 + 46, MIN, MAX};
        for (int character : outside) {
            IslandBridges x = new IslandBridges();
            is("type(" + character + ")", x.type(character), -1);
            is("count(13)", x.count(13), 0);
            is("fault(0)", x.fault(0), 0);
            is("fault(1)", x.fault(1), 5);
        }
        IslandBridges x = new IslandBridges();
        for (int character = 32; character <= 126; character++) {
            is("type(" + character + ")", x.type(character), character - 31);
        }
    }

    private static void mostCharacters() {
        DUE.by("Returns the length of the text; INVALID_ARGUMENT if character is out of range; LIMIT_REACHED if the text has 160 "
            + "characters.");
        IslandBridges x = new IslandBridges();
        Boards.write(x, rows(12, 12));
        is("the longest board", x.count(13), 155);
        is("has no fault", x.fault(0), -4);
        for (int length = 156; length <= 160; length++) {
            is("type('/')", x.type('/'), length);
        }
        is("the 161st", x.type('/'), -3);
        is("the 161st, out of range", x.type(31), -1);
        is("the 161st, out of range", x.type(127), -1);
        is("count(13)", x.count(13), 160);
        is("the fault stays", x.fault(0), 155);
        is("its reason stays", x.fault(1), 3);
        is("clearText()", x.clearText(), 160);
        is("type(46) then", x.type(46), 1);
    }

    private static void typeIsNoChange() {
        IslandBridges x = new IslandBridges();
        x.island(0, 1);
        Boards.write(x, "12/");
        is("count(12)", x.count(12), 1);
        is("undo()", x.undo(), 0);
        is("the text stays", x.count(13), 3);
        is("undo()", x.undo(), -2);
    }

    private static void clearTextTells() {
        DUE.by("Returns the length it had.");
        IslandBridges x = new IslandBridges();
        is("clearText() of nothing", x.clearText(), 0);
        x.type('1');
        is("clearText() of one", x.clearText(), 1);
        is("clearText() again", x.clearText(), 0);
        is("count(13)", x.count(13), 0);
        is("fault(0)", x.fault(0), 0);
        is("fault(1)", x.fault(1), 5);
        Boards.write(x, rows(3, 3));
        is("what was typed before is gone", x.fault(0), -4);
        is("clearText()", x.clearText(), 11);
        is("count(12)", x.count(12), 0);
    }

    private static void everyFirstCharacter() {
        DUE.by("its reason is 1 for a character that is none of these,");
        for (int character = 32; character <= 126; character++) {
            boolean isOne = character == '.' || character >= '1' && character <= '8';
            int reason = isOne ? 5 : character == '/' ? 2 : 1;
            fault("" + (char) character, reason == 5 ? 1 : 0, reason);
        }
    }

    private static void everyCharacterElsewhere() {
        for (int character = 32; character <= 126; character++) {
            boolean isOne = character == '.' || character >= '1' && character <= '8';
            fault(".../..." + (char) character, character == '/' ? 8 : 7, isOne ? 2 : character == '/' ? 5 : 1);
            fault(".../.../.." + (char) character, isOne ? -4 : 10, isOne ? -4 : character == '/' ? 2 : 1);
        }
    }

    private static void firstRowTooShort() {
        DUE.by("2 for a \"/\" where the row is too short (the first row: shorter than 3)");
        fault("/", 0, 2);
        fault("./", 1, 2);
        fault("../", 2, 2);
        fault(".../", 4, 5);
    }

    private static void firstRowTooLong() {
        DUE.by("another one of these characters where the row is too long (the first row: longer than 12)");
        fault(row(12), 12, 5);
        fault(row(13), 12, 2);
        fault(row(12) + "1", 12, 2);
        fault(row(12) + "8", 12, 2);
        fault(row(12) + "/", 13, 5);
        fault(row(14) + "/", 12, 2);
    }

    private static void laterRowTooShort() {
        DUE.by("All rows are as long as the first one.");
        for (int length = 3; length <= 12; length++) {
            for (int second = 0; second < length; second++) {
                fault(row(length) + "/" + row(second) + "/", length + 1 + second, 2);
            }
            fault(rows(2, length) + "/", 2 * length + 2, 5);
            fault(rows(2, length) + "//", 2 * length + 2, 2);
            fault(rows(11, length) + "/" + row(length - 1) + "/", 12 * length + 10, 2);
        }
    }

    private static void laterRowTooLong() {
        for (int length = 3; length <= 12; length++) {
            fault(row(length) + "/" + row(length + 1), 2 * length + 1, 2);
            fault(row(length) + "/" + row(length) + "1", 2 * length + 1, 2);
            fault(rows(3, length) + ".", 3 * length + 2, 2);
            fault(rows(3, length) + "8/", 3 * length + 2, 2);
        }
    }

    private static void rowBehindTheTwelfth() {
        DUE.by("3 for a \"/\" behind the row 12");
        for (int length = 3; length <= 12; length++) {
            noFault(rows(12, length));
            fault(rows(12, length) + "/", 12 * length + 11, 3);
            fault(rows(11, length) + "/", 11 * length + 11, 5);
        }
        fault(rows(13, 3), 47, 3);
        fault(rows(12, 3) + "/?", 47, 3);
    }

    private static void theTwentyFifthIsland() {
        DUE.by("4 for the 25th island");
        noFault("111111111111/888888888888/" + row(12));
        for (char digit = '1'; digit <= '8'; digit++) {
            fault("111111111111/888888888888/..." + digit, 29, 4);
        }
        noFault("12345/67812/34567/81234/5678.");
        fault("12345/67812/34567/81234/56781", 28, 4);
        noFault("12345/67812/34567/81234/.5678");
        fault("111111111111/888888888888/" + row(12) + "/" + row(11) + "8", 50, 4);
    }

    private static void fewerThanThreeRows() {
        DUE.by("5 (at the length) if there are fewer than 3 rows, or the last row is too short;");
        fault("", 0, 5);
        fault(".", 1, 5);
        fault("..", 2, 5);
        for (int length = 3; length <= 12; length++) {
            fault(row(length), length, 5);
            fault(rows(2, length), 2 * length + 1, 5);
            noFault(rows(3, length));
        }
    }

    private static void lastRowTooShort() {
        for (int length = 3; length <= 12; length++) {
            for (int last = 0; last < length; last++) {
                fault(rows(2, length) + "/" + row(last), 2 * length + 2 + last, 5);
                fault(rows(11, length) + "/" + row(last), 11 * length + 11 + last, 5);
            }
            fault(rows(3, length) + "/", 3 * length + 3, 5);
        }
        fault(".../.../.8", 10, 5);
    }

    private static void indexIsTheFirstFault() {
        DUE.by("The fault of the text is the index of the first character that cannot stand where it stands, or its length;");
        fault("?" + rows(12, 12), 0, 1);
        fault("..?/?", 2, 1);
        fault(".../..../?", 7, 2);
        fault("../.?", 2, 2);
        fault(".../.../..?", 10, 1);
        fault(".../.../...?", 11, 1);
        fault(rows(3, 12) + "0", 38, 1);
        IslandBridges x = new IslandBridges();
        for (int length = 0; length < 160; length++) {
            x.type('~');
        }
        is("160 signs: fault(0)", x.fault(0), 0);
        is("160 signs: fault(1)", x.fault(1), 1);
    }

    private static void firstReasonThatApplies() {
        DUE.by("the first one of these that applies to the character.");
        fault(row(12) + "9", 12, 1);
        fault(row(12) + "?", 12, 1);
        fault(".../...0", 7, 1);
        fault("111111111111/111111111111/" + row(12) + "?", 38, 1);
        fault("111111111111/111111111111?", 25, 1);
        fault("111111111111/1111111111118", 25, 2);
        fault("111111111111/111111111111/" + row(12) + "8", 38, 2);
        fault(rows(11, 3) + "/../", 46, 2);
        fault(rows(11, 3) + "//", 44, 2);
        fault("111/111/111/111/111/111/111/111/.../.../.../.../", 47, 3);
        fault("111/111/111/111/111/111/111/111/.../.../.../..1/", 46, 4);
    }

    private static void faultRanges() {
        DUE.by("Returns that; INVALID_ARGUMENT if what is out of range; NOT_FOUND if the text has no fault.");
        int[] outside = {-1, 2, 3, MIN, MAX};
        for (int what : outside) {
            IslandBridges x = new IslandBridges();
            is("a fault: fault(" + what + ")", x.fault(what), -1);
            Boards.write(x, rows(3, 3));
            is("no fault: fault(" + what + ")", x.fault(what), -1);
        }
        IslandBridges x = new IslandBridges();
        Boards.write(x, rows(3, 3));
        is("no fault: fault(0)", x.fault(0), -4);
        is("no fault: fault(1)", x.fault(1), -4);
    }

    private static void faultIsReadAgain() {
        IslandBridges x = new IslandBridges();
        String text = ".../.../...1";
        int[] index = {1, 2, 3, 4, 5, 6, 7, 8, 9, 10, -4, 11};
        int[] reason = {5, 5, 5, 5, 5, 5, 5, 5, 5, 5, -4, 2};
        for (int length = 1; length <= text.length(); length++) {
            x.type(text.charAt(length - 1));
            is(length + " signs: fault(1)", x.fault(1), reason[length - 1]);
            is(length + " signs: fault(0)", x.fault(0), index[length - 1]);
        }
        x.clearText();
        is("fault(0)", x.fault(0), 0);
        is("fault(1)", x.fault(1), 5);
    }

    private static void loadSizes() {
        DUE.by("Makes the board that of the text, which stays.");
        for (int columns = 3; columns <= 12; columns++) {
            for (int count = 3; count <= 12; count++) {
                IslandBridges x = new IslandBridges();
                Boards.write(x, rows(count, columns));
                is(columns + " x " + count + ": load()", x.load(), 0);
                is("count(0)", x.count(0), columns);
                is("count(1)", x.count(1), count);
                is("at(last)", x.at(columns * count - 1), 0);
                is("at(behind)", x.at(columns * count), -1);
            }
        }
    }

    private static void loadPlaces() {
        String[] texts = {
            "1../.../..8", "..12/34../5..6", "1..........2/............/3..........4", "1.2/.../.../.../.../.../.../.../.../.../.../3.4",
            ".......12345/678........./1..........2"
        };
        for (String text : texts) {
            IslandBridges x = new IslandBridges();
            Boards.write(x, text);
            is("load() of " + text, x.load(), text.replaceAll("[^1-8]", "").length());
            DUE.isSame("the board", Boards.text(x), text);
        }
    }

    private static void loadOfAFault() {
        DUE.by("Returns the number of islands; NOT_POSSIBLE if the text has a fault.");
        String[] texts = {"", "...", "1.1/.../1.1?", "1.1/.../1.", "1.1/.../1.1.", "1.1/.../1.1/", rows(13, 3), "11111/11111/11111/11111/11111"};
        for (String text : texts) {
            IslandBridges x = Boards.of("2.2/.../2.2");
            x.build(0);
            x.step();
            Boards.write(x, text);
            String before = Boards.picture(x);
            is("load() of " + text, x.load(), -2);
            DUE.isSame("nothing changes", Boards.picture(x), before);
        }
    }

    private static void loadKeepsTheText() {
        IslandBridges x = new IslandBridges();
        Boards.write(x, "1.1/.../...");
        is("load()", x.load(), 2);
        is("count(13)", x.count(13), 11);
        is("fault(0)", x.fault(0), -4);
        is("begin(12, 12)", x.begin(12, 12), 2);
        is("load() again", x.load(), 2);
        is("count(0)", x.count(0), 3);
        Boards.write(x, "/1..");
        is("load() of more", x.load(), 3);
        is("count(1)", x.count(1), 4);
        is("at(9)", x.at(9), 1);
    }

    private static void loadOfTheEmptyAndTheFullBoard() {
        IslandBridges x = Boards.full();
        Boards.write(x, rows(12, 12));
        is("the empty board: load()", x.load(), 0);
        is("count(2)", x.count(2), 0);
        is("count(3)", x.count(3), 0);
        is("count(7)", x.count(7), 0);
        x.clearText();
        Boards.write(x, "12345/67812/34567/81234/5678.");
        is("the full board: load()", x.load(), 24);
        is("count(2)", x.count(2), 24);
        is("count(3)", x.count(3), 38);
        is("count(9)", x.count(9), 108);
        is("island(24, 1)", x.island(24, 1), -3);
    }

    private static void loadIsAChange() {
        IslandBridges x = new IslandBridges();
        x.begin(4, 5);
        x.island(19, 3);
        Boards.write(x, "1.1/.../...");
        is("load()", x.load(), 2);
        is("count(12)", x.count(12), 3);
        is("undo()", x.undo(), 2);
        is("count(0)", x.count(0), 4);
        is("count(1)", x.count(1), 5);
        is("at(19)", x.at(19), 3);
        is("the text stays", x.count(13), 11);
        is("load() again", x.load(), 2);
    }
}
