import java.util.function.Supplier;

/** Boards for tests, from texts whose rows are parted by "/". */
final class Boards {
    private Boards() {
    }

    static IslandBridges of(String text) {
        IslandBridges board = new IslandBridges();
        write(board, text);
        int loaded = board.load();
        if (loaded < 0) {
            throw new IllegalStateException("not loaded: " + text + ", " + loaded);
        }
        board.clearText();
        return board;
    }

    static void write(IslandBridges board, String text) {
        for (int index = 0; index < text.length(); index++) {
            board.type(text.charAt(index));
        }
    }

    /** The board of 12 x 12 cells with 24 islands and as many ways as there can be; its history is full. */
    static IslandBridges full() {
        IslandBridges board = new IslandBridges();
        board.begin(12, 12);
        for (int island = 0; island < 24; island++) {
            int place = island + (island > 3 ? 1 : 0);
            board.island(place / 5 * 24 + place % 5 * 2, 8);
        }
        return board;
    }

    /** The text that would load the board. */
    static String text(IslandBridges board) {
        StringBuilder text = new StringBuilder();
        int columns = board.count(0);
        int cells = columns * board.count(1);
        for (int cell = 0; cell < cells; cell++) {
            text.append(cell > 0 && cell % columns == 0 ? "/" : "");
            int number = board.islandInfo(cell, 0);
            text.append(number > 0 ? (char) ('0' + number) : '.');
        }
        return text.toString();
    }

    /** All that can be asked of a board and does not change it, in one line; for small boards, as it asks for much. */
    static String picture(IslandBridges board) {
        StringBuilder line = new StringBuilder();
        for (int what = 0; what <= 13; what++) {
            line.append(board.count(what)).append(' ');
        }
        int cells = board.count(0) * board.count(1);
        for (int cell = 0; cell < cells; cell++) {
            line.append(board.at(cell)).append(',');
            for (int what = 0; what <= 5; what++) {
                line.append(board.islandInfo(cell, what)).append(' ');
            }
        }
        int ways = board.count(3);
        for (int way = 0; way < ways; way++) {
            for (int what = 0; what <= 7; what++) {
                line.append(board.way(way, what)).append(' ');
            }
        }
        line.append(board.hint()).append(' ').append(board.fault(0)).append(' ').append(board.fault(1));
        return line.toString();
    }

    /** The picture without the states in the history and the text. */
    static String pictureOfState(IslandBridges board) {
        StringBuilder line = new StringBuilder();
        for (int what = 0; what <= 11; what++) {
            line.append(board.count(what)).append(' ');
        }
        int cells = board.count(0) * board.count(1);
        for (int cell = 0; cell < cells; cell++) {
            line.append(board.at(cell)).append(' ');
        }
        int ways = board.count(3);
        for (int way = 0; way < ways; way++) {
            line.append(board.way(way, 2)).append(board.way(way, 3)).append(' ');
        }
        return line.toString();
    }

    /**
     * All that a board would ever tell: what can be asked of it, its solutions, the states of its history, and its text.
     * As an object is used for at most 512 calls, each part is told by a board of its own.
     */
    static String unwound(Supplier<IslandBridges> scene) {
        StringBuilder all = new StringBuilder();
        IslandBridges board = scene.get();
        for (int what = 0; what <= 13; what++) {
            all.append(board.count(what)).append(' ');
        }
        all.append(board.hint()).append(' ').append(board.fault(0)).append(' ').append(board.fault(1));
        all.append(' ').append(board.solutions());
        int cells = board.count(0) * board.count(1);
        int ways = board.count(3);
        asked(all, scene, cells, (x, cell) -> x.at(cell));
        for (int what = 0; what <= 5; what++) {
            int property = what;
            asked(all, scene, cells, (x, cell) -> x.islandInfo(cell, property));
        }
        for (int what = 0; what <= 7; what++) {
            int property = what;
            asked(all, scene, ways, (x, way) -> x.way(way, property));
        }
        asked(all, scene, ways, (x, way) -> x.inAll(way));
        for (int back = 1; back <= 5; back++) {
            IslandBridges undone = scene.get();
            asked(all, () -> undone, back, (x, time) -> x.undo());
            all.append(pictureOfState(undone));
        }
        IslandBridges loaded = scene.get();
        all.append(" | ").append(loaded.load()).append(' ').append(text(loaded)).append(' ').append(loaded.clearText());
        return all.toString();
    }

    private static void asked(StringBuilder all, Supplier<IslandBridges> scene, int times, Ask ask) {
        IslandBridges board = scene.get();
        all.append(" | ");
        for (int time = 0; time < times; time++) {
            all.append(ask.of(board, time)).append(' ');
        }
    }

    private interface Ask {
        int of(IslandBridges board, int place);
    }
}
