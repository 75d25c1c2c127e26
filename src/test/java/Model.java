import java.util.ArrayDeque;
import java.util.ArrayList;
import java.util.Arrays;
import java.util.Deque;
import java.util.List;
import java.util.TreeMap;
import java.util.TreeSet;

/** The same puzzle in the slowest and most literal way, to compare answers with. */
final class Model {
    /** What a change records; copied whole each time. */
    private static final class Kept {
        int columns = 7;
        int rows = 7;
        TreeMap<Integer, Integer> islands = new TreeMap<>();
        List<int[]> ways = new ArrayList<>();
        List<Integer> bridges = new ArrayList<>();
        List<Integer> caps = new ArrayList<>();
        List<Integer> rules = new ArrayList<>();

        Kept copy() {
            Kept other = new Kept();
            other.columns = columns;
            other.rows = rows;
            other.islands = new TreeMap<>(islands);
            other.ways = new ArrayList<>(ways);
            other.bridges = new ArrayList<>(bridges);
            other.caps = new ArrayList<>(caps);
            other.rules = new ArrayList<>(rules);
            return other;
        }
    }

    private Kept now = new Kept();
    private final Deque<Kept> history = new ArrayDeque<>();
    private String text = "";

    static List<Integer> cellsBetween(int first, int second, int columns) {
        List<Integer> cells = new ArrayList<>();
        int stride = first / columns == second / columns ? 1 : columns;
        for (int cell = first + stride; cell < second; cell += stride) {
            cells.add(cell);
        }
        return cells;
    }

    private void record() {
        history.addLast(now.copy());
        if (history.size() > 4) {
            history.removeFirst();
        }
    }

    private boolean isCell(int cell) {
        return cell >= 0 && cell < now.columns * now.rows;
    }

    private boolean isWay(int way) {
        return way >= 0 && way < now.ways.size();
    }

    private int changed() {
        now.ways.clear();
        for (int a : now.islands.keySet()) {
            for (int b : now.islands.keySet()) {
                boolean sameRow = a / now.columns == b / now.columns;
                if (b > a && sameRow && noIslandBetween(a, b)) {
                    now.ways.add(new int[] {a, b});
                }
            }
            for (int b : now.islands.keySet()) {
                boolean sameColumn = a % now.columns == b % now.columns;
                if (b > a && sameColumn && noIslandBetween(a, b)) {
                    now.ways.add(new int[] {a, b});
                }
            }
        }
        return cleared();
    }

    private boolean noIslandBetween(int a, int b) {
        for (int cell : cellsBetween(a, b, now.columns)) {
            if (now.islands.containsKey(cell)) {
                return false;
            }
        }
        return true;
    }

    private int cleared() {
        int before = bridgesInAll();
        now.bridges.clear();
        now.caps.clear();
        now.rules.clear();
        for (int way = 0; way < now.ways.size(); way++) {
            now.bridges.add(0);
            now.caps.add(2);
        }
        return before;
    }

    private int bridgesInAll() {
        int all = 0;
        for (int bridges : now.bridges) {
            all += bridges;
        }
        return all;
    }

    int begin(int columns, int rows) {
        if (columns < 3 || columns > 12 || rows < 3 || rows > 12) {
            return -1;
        }
        record();
        int before = now.islands.size();
        now.columns = columns;
        now.rows = rows;
        now.islands.clear();
        changed();
        return before;
    }

    int island(int cell, int number) {
        if (!isCell(cell) || number < 1 || number > 8) {
            return -1;
        }
        if (!now.islands.containsKey(cell) && now.islands.size() == 24) {
            return -3;
        }
        record();
        now.islands.put(cell, number);
        changed();
        return now.ways.size();
    }

    int removeIsland(int cell) {
        if (!isCell(cell)) {
            return -1;
        }
        if (!now.islands.containsKey(cell)) {
            return -4;
        }
        record();
        int number = now.islands.remove(cell);
        changed();
        return number;
    }

    int at(int cell) {
        if (!isCell(cell)) {
            return -1;
        }
        if (now.islands.containsKey(cell)) {
            return now.islands.get(cell);
        }
        for (int way = 0; way < now.ways.size(); way++) {
            int[] ends = now.ways.get(way);
            if (now.bridges.get(way) > 0 && cellsBetween(ends[0], ends[1], now.columns).contains(cell)) {
                return (ends[0] / now.columns == ends[1] / now.columns ? 10 : 20) + now.bridges.get(way);
            }
        }
        return 0;
    }

    private List<Integer> waysOf(int cell) {
        List<Integer> ways = new ArrayList<>();
        for (int way = 0; way < now.ways.size(); way++) {
            if (now.ways.get(way)[0] == cell || now.ways.get(way)[1] == cell) {
                ways.add(way);
            }
        }
        return ways;
    }

    private int sum(int cell, List<Integer> values) {
        int sum = 0;
        for (int way : waysOf(cell)) {
            sum += values.get(way);
        }
        return sum;
    }

    private int lack(int cell, List<Integer> bridges) {
        return now.islands.get(cell) - sum(cell, bridges);
    }

    /** The cells that can be reached from a cell over ways with bridges. */
    private TreeSet<Integer> group(int cell, List<Integer> bridges) {
        TreeSet<Integer> group = new TreeSet<>();
        Deque<Integer> open = new ArrayDeque<>();
        open.add(cell);
        while (!open.isEmpty()) {
            int next = open.remove();
            if (group.add(next)) {
                for (int way : waysOf(next)) {
                    if (bridges.get(way) > 0) {
                        open.add(now.ways.get(way)[0]);
                        open.add(now.ways.get(way)[1]);
                    }
                }
            }
        }
        return group;
    }

    private TreeSet<Integer> lowestCells() {
        TreeSet<Integer> lowest = new TreeSet<>();
        for (int cell : now.islands.keySet()) {
            lowest.add(group(cell, now.bridges).first());
        }
        return lowest;
    }

    int islandInfo(int cell, int what) {
        if (!isCell(cell) || what < 0 || what > 5) {
            return -1;
        }
        if (!now.islands.containsKey(cell)) {
            return -4;
        }
        int[] answers = {
            now.islands.get(cell), sum(cell, now.bridges), lack(cell, now.bridges), waysOf(cell).size(),
            sum(cell, now.caps), lowestCells().headSet(group(cell, now.bridges).first()).size()
        };
        return answers[what];
    }

    private List<Integer> crossing(int way) {
        List<Integer> crossing = new ArrayList<>();
        for (int other = 0; other < now.ways.size(); other++) {
            List<Integer> shared = cellsBetween(now.ways.get(way)[0], now.ways.get(way)[1], now.columns);
            shared.retainAll(cellsBetween(now.ways.get(other)[0], now.ways.get(other)[1], now.columns));
            if (other != way && !shared.isEmpty()) {
                crossing.add(other);
            }
        }
        return crossing;
    }

    private int crossingBuilt(int way) {
        int built = 0;
        for (int other : crossing(way)) {
            built += now.bridges.get(other) > 0 ? 1 : 0;
        }
        return built;
    }

    private int reason(int way) {
        int bridges = now.bridges.get(way);
        if (bridges == 2) {
            return 1;
        }
        if (now.caps.get(way) == bridges) {
            return 2;
        }
        if (crossingBuilt(way) > 0) {
            return 3;
        }
        return lack(now.ways.get(way)[0], now.bridges) <= 0 || lack(now.ways.get(way)[1], now.bridges) <= 0 ? 4 : 0;
    }

    int way(int way, int what) {
        if (!isWay(way) || what < 0 || what > 7) {
            return -1;
        }
        int[] ends = now.ways.get(way);
        int[] answers = {
            ends[0], ends[1], now.bridges.get(way), now.caps.get(way),
            cellsBetween(ends[0], ends[1], now.columns).size(), crossing(way).size(), crossingBuilt(way), reason(way)
        };
        return answers[what];
    }

    int between(int a, int b) {
        if (!isCell(a) || !isCell(b)) {
            return -1;
        }
        for (int way = 0; way < now.ways.size(); way++) {
            int[] ends = now.ways.get(way);
            if (ends[0] == a && ends[1] == b || ends[0] == b && ends[1] == a) {
                return way;
            }
        }
        return -4;
    }

    private boolean isBroken() {
        for (int cell : now.islands.keySet()) {
            if (sum(cell, now.caps) < now.islands.get(cell) || sum(cell, now.bridges) > now.islands.get(cell)) {
                return true;
            }
        }
        return false;
    }

    int count(int what) {
        if (what < 0 || what > 13) {
            return -1;
        }
        int complete = 0;
        int numbers = 0;
        int grade = 0;
        for (int cell : now.islands.keySet()) {
            complete += lack(cell, now.bridges) == 0 ? 1 : 0;
            numbers += now.islands.get(cell);
        }
        for (int rule : now.rules) {
            grade = Math.max(grade, rule);
        }
        int islands = now.islands.size();
        int groups = lowestCells().size();
        int[] answers = {
            now.columns, now.rows, islands, now.ways.size(), bridgesInAll(), complete, groups,
            islands > 0 && complete == islands && groups == 1 ? 1 : 0, isBroken() ? 1 : 0, numbers, grade,
            now.rules.size(), history.size(), text.length()
        };
        return answers[what];
    }

    int build(int way) {
        if (!isWay(way)) {
            return -1;
        }
        if (reason(way) != 0) {
            return -2;
        }
        record();
        now.bridges.set(way, now.bridges.get(way) + 1);
        return now.bridges.get(way);
    }

    int take(int way) {
        if (!isWay(way)) {
            return -1;
        }
        if (now.bridges.get(way) == 0) {
            return -2;
        }
        record();
        now.bridges.set(way, now.bridges.get(way) - 1);
        return now.bridges.get(way);
    }

    int cap(int way, int value) {
        if (!isWay(way) || value < 0 || value > 2) {
            return -1;
        }
        if (now.bridges.get(way) > value) {
            return -2;
        }
        record();
        return now.caps.set(way, value);
    }

    int clear() {
        record();
        return cleared();
    }

    /** Rule, way, bridges then, cap then; null if there is no step. */
    private int[] next() {
        int ways = now.ways.size();
        for (int way = 0; way < ways; way++) {
            if (now.bridges.get(way) == 0 && now.caps.get(way) > 0 && crossingBuilt(way) > 0) {
                return new int[] {1, way, 0, 0};
            }
        }
        for (int way = 0; way < ways; way++) {
            int bridges = now.bridges.get(way);
            int one = lack(now.ways.get(way)[0], now.bridges);
            int other = lack(now.ways.get(way)[1], now.bridges);
            if (now.caps.get(way) > bridges + one || now.caps.get(way) > bridges + other) {
                return new int[] {2, way, bridges, bridges + Math.min(one, other)};
            }
        }
        for (int way = 0; way < ways; way++) {
            int one = difference(now.ways.get(way)[0], way);
            int other = difference(now.ways.get(way)[1], way);
            if (now.bridges.get(way) < one || now.bridges.get(way) < other) {
                return new int[] {3, way, Math.max(one, other), now.caps.get(way)};
            }
        }
        for (int way = 0; way < ways; way++) {
            if (now.caps.get(way) > now.bridges.get(way) && cutsOff(way)) {
                return new int[] {4, way, now.bridges.get(way), now.caps.get(way) - 1};
            }
        }
        return null;
    }

    private int difference(int cell, int way) {
        int others = 0;
        for (int other : waysOf(cell)) {
            others += other == way ? 0 : now.caps.get(other);
        }
        return now.islands.get(cell) - others;
    }

    private boolean cutsOff(int way) {
        List<Integer> bridges = new ArrayList<>(now.bridges);
        bridges.set(way, now.caps.get(way));
        TreeSet<Integer> group = group(now.ways.get(way)[0], bridges);
        for (int cell : group) {
            if (lack(cell, bridges) != 0) {
                return false;
            }
        }
        return group.size() < now.islands.size();
    }

    int hint() {
        if (isBroken()) {
            return -2;
        }
        int[] next = next();
        return next == null ? -4 : 100 * next[0] + next[1];
    }

    private void carryOut() {
        int[] next = next();
        now.rules.add(next[0]);
        now.bridges.set(next[1], next[2]);
        now.caps.set(next[1], next[3]);
    }

    int step() {
        int hint = hint();
        if (hint >= 0) {
            record();
            carryOut();
        }
        return hint;
    }

    int steps(int most) {
        if (most < 1 || most > 200) {
            return -1;
        }
        record();
        int made = 0;
        while (made < most && hint() >= 0) {
            carryOut();
            made++;
        }
        return made;
    }

    int solutions() {
        if (now.islands.isEmpty()) {
            return -2;
        }
        return now.ways.size() > 14 ? -3 : brute().solutions();
    }

    int inAll(int way) {
        if (!isWay(way)) {
            return -1;
        }
        return now.ways.size() > 14 ? -3 : brute().inAll(way);
    }

    private Brute brute() {
        int[] numbers = new int[now.columns * now.rows];
        Arrays.setAll(numbers, cell -> now.islands.getOrDefault(cell, 0));
        return new Brute(now.columns, numbers, now.ways.toArray(new int[0][]));
    }

    int make(int seed, int islands) {
        if (seed < 0 || seed > 65535 || islands < 2 || islands > 24) {
            return -1;
        }
        record();
        setNumbers(Made.board(now.columns, now.rows, seed, islands));
        return now.islands.size();
    }

    private void setNumbers(int[] numbers) {
        now.islands.clear();
        for (int cell = 0; cell < numbers.length; cell++) {
            if (numbers[cell] > 0) {
                now.islands.put(cell, numbers[cell]);
            }
        }
        changed();
    }

    int undo() {
        if (history.isEmpty()) {
            return -2;
        }
        now = history.removeLast();
        return history.size();
    }

    int type(int character) {
        if (character < 32 || character > 126) {
            return -1;
        }
        if (text.length() == 160) {
            return -3;
        }
        text += (char) character;
        return text.length();
    }

    int clearText() {
        int before = text.length();
        text = "";
        return before;
    }

    /** Index and reason of the fault, each character looked at with all that is ahead of it; null if there is none. */
    private int[] textFault() {
        int firstRow = text.indexOf('/') < 0 ? text.length() : text.indexOf('/');
        for (int index = 0; index < text.length(); index++) {
            String ahead = text.substring(0, index);
            char character = text.charAt(index);
            String row = ahead.substring(ahead.lastIndexOf('/') + 1);
            boolean isFirst = ahead.indexOf('/') < 0;
            if ("./12345678".indexOf(character) < 0) {
                return new int[] {index, 1};
            }
            if (character == '/' && row.length() < (isFirst ? 3 : firstRow)) {
                return new int[] {index, 2};
            }
            if (character != '/' && row.length() == (isFirst ? 12 : firstRow)) {
                return new int[] {index, 2};
            }
            if (character == '/' && ahead.replaceAll("[^/]", "").length() == 11) {
                return new int[] {index, 3};
            }
            if (Character.isDigit(character) && ahead.replaceAll("[^1-8]", "").length() == 24) {
                return new int[] {index, 4};
            }
        }
        String[] rows = text.split("/", -1);
        boolean isShort = rows.length < 3 || rows[rows.length - 1].length() < firstRow;
        return isShort ? new int[] {text.length(), 5} : null;
    }

    int fault(int what) {
        if (what < 0 || what > 1) {
            return -1;
        }
        int[] fault = textFault();
        return fault == null ? -4 : fault[what];
    }

    int load() {
        if (textFault() != null) {
            return -2;
        }
        record();
        String[] rows = text.split("/", -1);
        now.columns = rows[0].length();
        now.rows = rows.length;
        int[] numbers = new int[now.columns * now.rows];
        Arrays.setAll(numbers, cell -> Math.max(0, rows[cell / now.columns].charAt(cell % now.columns) - '0'));
        setNumbers(numbers);
        return now.islands.size();
    }
}
