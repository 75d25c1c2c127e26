import java.util.ArrayList;
import java.util.Arrays;
import java.util.List;
import java.util.stream.IntStream;

/** The solutions of a board by trying, from its numbers and its ways. */
final class Brute {
    private final int ways;
    private final int[] first;
    private final int[] second;
    private final boolean[][] cross;
    private final int[] cells;
    private final int[] numbers;
    private final List<int[]> found = new ArrayList<>();

    Brute(IslandBridges board) {
        this(board.count(0), numbersOf(board), waysOf(board));
    }

    /** The numbers by cells, and the cells of both islands of each way. */
    Brute(int columns, int[] numbersByCells, int[][] ends) {
        ways = ends.length;
        numbers = numbersByCells;
        first = new int[ways];
        second = new int[ways];
        cross = new boolean[ways][ways];
        cells = IntStream.range(0, numbers.length).filter(cell -> numbers[cell] > 0).toArray();
        for (int way = 0; way < ways; way++) {
            first[way] = ends[way][0];
            second[way] = ends[way][1];
        }
        for (int a = 0; a < ways; a++) {
            for (int b = 0; b < ways; b++) {
                List<Integer> shared = Model.cellsBetween(first[a], second[a], columns);
                shared.retainAll(Model.cellsBetween(first[b], second[b], columns));
                cross[a][b] = a != b && !shared.isEmpty();
            }
        }
        tryAll(new int[ways], 0, numbers.clone());
    }

    private static int[] numbersOf(IslandBridges board) {
        int[] numbers = new int[board.count(0) * board.count(1)];
        Arrays.setAll(numbers, cell -> Math.max(0, board.islandInfo(cell, 0)));
        return numbers;
    }

    private static int[][] waysOf(IslandBridges board) {
        int[][] ends = new int[board.count(3)][];
        Arrays.setAll(ends, way -> new int[] {board.way(way, 0), board.way(way, 1)});
        return ends;
    }

    private void tryAll(int[] bridges, int way, int[] lacks) {
        if (way == ways) {
            if (isSolved(bridges, lacks)) {
                found.add(bridges.clone());
            }
            return;
        }
        for (int value = 0; value <= 2; value++) {
            bridges[way] = value;
            lacks[first[way]] -= value;
            lacks[second[way]] -= value;
            if (lacks[first[way]] >= 0 && lacks[second[way]] >= 0) {
                tryAll(bridges, way + 1, lacks);
            }
            lacks[first[way]] += value;
            lacks[second[way]] += value;
            bridges[way] = 0;
        }
    }

    private boolean isSolved(int[] bridges, int[] lacks) {
        for (int cell : cells) {
            if (lacks[cell] != 0) {
                return false;
            }
        }
        for (int a = 0; a < ways; a++) {
            for (int b = 0; b < ways; b++) {
                if (cross[a][b] && bridges[a] > 0 && bridges[b] > 0) {
                    return false;
                }
            }
        }
        return cells.length > 0 && reached(bridges) == cells.length;
    }

    private int reached(int[] bridges) {
        boolean[] seen = new boolean[numbers.length];
        seen[cells[0]] = true;
        for (int round = 0; round < cells.length; round++) {
            for (int way = 0; way < ways; way++) {
                if (bridges[way] > 0 && (seen[first[way]] || seen[second[way]])) {
                    seen[first[way]] = true;
                    seen[second[way]] = true;
                }
            }
        }
        int reached = 0;
        for (int cell : cells) {
            reached += seen[cell] ? 1 : 0;
        }
        return reached;
    }

    int allSolutions() {
        return found.size();
    }

    int solutions() {
        return Math.min(50, found.size());
    }

    int inAll(int way) {
        if (found.isEmpty()) {
            return -4;
        }
        for (int[] solution : found) {
            if (solution[way] != found.get(0)[way]) {
                return -4;
            }
        }
        return found.get(0)[way];
    }
}
