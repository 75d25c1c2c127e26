import java.util.ArrayList;
import java.util.Collections;
import java.util.List;

/** A board made from a seed, as the document tells it, for comparison. */
final class Made {
    private long z;

    private Made(int seed) {
        z = seed;
    }

    private int draw(int below) {
        z = (75 * z + 74) % 65537;
        return (int) (z % below);
    }

    /** The numbers by cells. */
    static int[] board(int columns, int rows, int seed, int wanted) {
        Made draws = new Made(seed);
        int[] numbers = new int[columns * rows];
        boolean[] bridge = new boolean[columns * rows];
        List<Integer> islands = new ArrayList<>();
        islands.add(draws.draw(columns * rows));
        int[] right = {1, 0, -1, 0};
        int[] down = {0, 1, 0, -1};
        for (int tried = 0; tried < 200 && islands.size() < wanted; tried++) {
            Collections.sort(islands);
            int from = islands.get(draws.draw(islands.size()));
            int direction = draws.draw(4);
            int distance = draws.draw(4) + 2;
            int bridges = draws.draw(2) + 1;
            List<Integer> path = new ArrayList<>();
            boolean free = true;
            for (int far = 1; far <= distance; far++) {
                int x = from % columns + right[direction] * far;
                int y = from / columns + down[direction] * far;
                if (x < 0 || x >= columns || y < 0 || y >= rows) {
                    free = false;
                    break;
                }
                int cell = y * columns + x;
                free = free && !bridge[cell] && !islands.contains(cell);
                path.add(cell);
            }
            if (free) {
                int to = path.remove(path.size() - 1);
                for (int cell : path) {
                    bridge[cell] = true;
                }
                islands.add(to);
                numbers[from] += bridges;
                numbers[to] += bridges;
            }
        }
        if (islands.size() == 1) {
            numbers[islands.get(0)] = 1;
        }
        return numbers;
    }
}
