/** Boards for tests, from texts whose rows are parted by "/". */
final class Boards {
    private Boards() {
    }

    static IslandBridges of(String text) {
        IslandBridges board = new IslandBridges();
        write(board, text);
        int loaded = board.load();
        if (loaded < 0) {
            throw new IllegalStateException("not loaded: " + text + ", " + loaded);
        }
        board.clearText();
        return board;
    }

    static void write(IslandBridges board, String text) {
        for (int index = 0; index < text.length(); index++) {
            board.type(text.charAt(index));
        }
    }

    /** The board of 12 x 12 cells with 24 islands and as many ways as there can be; its history is full. */
    static IslandBridges full() {
        IslandBridges board = new IslandBridges();
        board.begin(12, 12);
        for (int island = 0; island < 24; island++) {
            int place = island + (island > 3 ? 1 : 0);
            board.island(place / 5 * 24 + place % 5 * 2, 8);
        }
        return board;
    }

    /** The text that would load the board. */
    static String text(IslandBridges board) {
        StringBuilder text = new StringBuilder();
        for (int cell = 0; cell < board.count(0) * board.count(1); cell++) {
            text.append(cell > 0 && cell % board.count(0) == 0 ? "/" : "");
            int number = board.islandInfo(cell, 0);
            text.append(number > 0 ? (char) ('0' + number) : '.');
        }
        return text.toString();
    }

    /** All that can be asked of a board and does not change it, in one line. */
    static String picture(IslandBridges board) {
        StringBuilder line = new StringBuilder();
        for (int what = 0; what <= 13; what++) {
            line.append(board.count(what)).append(' ');
        }
        for (int cell = 0; cell < board.count(0) * board.count(1); cell++) {
            line.append(board.at(cell)).append(',');
            for (int what = 0; what <= 5; what++) {
                line.append(board.islandInfo(cell, what)).append(' ');
            }
        }
        for (int way = 0; way < board.count(3); way++) {
            for (int what = 0; what <= 7; what++) {
                line.append(board.way(way, what)).append(' ');
            }
        }
        line.append(board.hint()).append(' ').append(board.fault(0)).append(' ').append(board.fault(1));
        return line.toString();
    }

    /** The picture without the states in the history and the text. */
    static String pictureOfState(IslandBridges board) {
        StringBuilder line = new StringBuilder();
        for (int what = 0; what <= 11; what++) {
            line.append(board.count(what)).append(' ');
        }
        for (int cell = 0; cell < board.count(0) * board.count(1); cell++) {
            line.append(board.at(cell)).append(' ');
        }
        for (int way = 0; way < board.count(3); way++) {
            line.append(board.way(way, 2)).append(board.way(way, 3)).append(' ');
        }
        return line.toString();
    }

    /** All that a board would ever tell: its picture, its solutions, its text, and the states of its history. */
    static String unwound(IslandBridges board) {
        StringBuilder all = new StringBuilder(picture(board));
        all.append(" | ").append(board.solutions());
        for (int way = 0; way < board.count(3); way++) {
            all.append(' ').append(board.inAll(way));
        }
        for (int left = board.undo(); left >= 0; left = board.undo()) {
            all.append(" | ").append(left).append(' ').append(pictureOfState(board));
        }
        all.append(" | ").append(board.load()).append(' ').append(text(board)).append(' ').append(board.clearText());
        return all.toString();
    }
}
