import java.util.ArrayDeque;
import java.util.ArrayList;
import java.util.List;
import java.util.TreeSet;
import java.util.function.IntUnaryOperator;

/**
 * The document in its own words, over sets of point numbers 16 * x + y: slow, and made in other
 * ways than the program, so that a slip in one shows. A misreading of the document could be in both.
 */
final class Model {
    private static final int[] SIZES = {1, 2, 4, 8, 16};

    private final List<TreeSet<Integer>> pictures = new ArrayList<>();

    Model() {
        for (int p = 0; p < 3; p++) {
            pictures.add(new TreeSet<>());
        }
    }

    /** Calls a method by its place in the public face. */
    int call(int method, int a, int b, int c, int d) {
        switch (method) {
            case 0: return paint(a, b, c, d);
            case 1: return join(a, b, c);
            case 2: return copy(a, b);
            case 3: return turn(a, b);
            case 4: return shift(a, b, c);
            case 5: return zoom(a, b, c);
            case 6: return at(a, b, c);
            case 7: return bad(a) ? -1 : pictures.get(a).size();
            case 8: return areaIn(a, b, c);
            case 9: return bad(a) ? -1 : allTiles(a).size();
            case 10: return tilesOf(a, b);
            case 11: return tileAt(a, b, c);
            case 12: return bad(a) || bad(b) ? -1 : yes(pictures.get(a).equals(pictures.get(b)));
            case 13: return bad(a) || bad(b) ? -1 : yes(pictures.get(b).containsAll(pictures.get(a)));
            case 14: return border(a);
            case 15: return regions(a);
            default: return next(a, b);
        }
    }

    private int paint(int p, int low, int high, int mode) {
        if (bad(p)) return -1;
        if (badRectangle(low, high)) return -2;
        if (mode < 0 || mode > 2) return -3;
        TreeSet<Integer> picture = pictures.get(p);
        for (int n : rectangle(low, high)) {
            if (mode == 1 || mode == 2 && !picture.contains(n)) {
                picture.add(n);
            } else {
                picture.remove(n);
            }
        }
        return picture.size();
    }

    private int join(int kind, int p, int q) {
        if (kind < 0 || kind > 3) return -1;
        if (bad(p) || bad(q)) return -2;
        TreeSet<Integer> one = new TreeSet<>(pictures.get(p));
        TreeSet<Integer> two = new TreeSet<>(pictures.get(q));
        TreeSet<Integer> both = new TreeSet<>(one);
        both.retainAll(two);
        if (kind == 0) one.retainAll(two);
        if (kind == 1 || kind == 2) one.addAll(two);
        if (kind == 2) one.removeAll(both);
        if (kind == 3) one.removeAll(two);
        pictures.set(p, one);
        return one.size();
    }

    private int copy(int p, int q) {
        if (bad(p) || bad(q)) return -1;
        pictures.set(p, new TreeSet<>(pictures.get(q)));
        return 0;
    }

    private int turn(int kind, int p) {
        if (kind < 0 || kind > 2) return -1;
        if (bad(p)) return -2;
        if (kind == 0) move(p, n -> number(n % 16, 15 - n / 16));
        if (kind == 1) move(p, n -> number(15 - n / 16, n % 16));
        if (kind == 2) move(p, n -> number(n % 16, n / 16));
        return allTiles(p).size();
    }

    private int shift(int p, int dx, int dy) {
        if (bad(p)) return -1;
        if (Math.abs((long) dx) > 15 || Math.abs((long) dy) > 15) return -2;
        move(p, n -> number(n / 16 + dx, n % 16 + dy));
        return pictures.get(p).size();
    }

    private int zoom(int p, int q, int quarter) {
        if (bad(p) || bad(q)) return -1;
        if (quarter < 0 || quarter > 3) return -2;
        int a = quarter >> 1;
        int b = quarter & 1;
        TreeSet<Integer> large = new TreeSet<>();
        for (int n : rectangle(0, 255)) {
            if (pictures.get(q).contains(16 * (8 * a + n / 16 / 2) + 8 * b + n % 16 / 2)) large.add(n);
        }
        pictures.set(p, large);
        return large.size();
    }

    private int at(int p, int x, int y) {
        if (bad(p)) return -1;
        if (number(x, y) < 0) return -2;
        return yes(pictures.get(p).contains(16 * x + y));
    }

    private int areaIn(int p, int low, int high) {
        if (bad(p)) return -1;
        if (badRectangle(low, high)) return -2;
        List<Integer> found = rectangle(low, high);
        found.retainAll(pictures.get(p));
        return found.size();
    }

    private int tilesOf(int p, int size) {
        if (bad(p)) return -1;
        int points = 0;
        for (int good : SIZES) {
            if (good == size) points = size * size;
        }
        if (points == 0) return -2;
        int count = 0;
        for (List<Integer> tile : allTiles(p)) {
            if (tile.size() == points) count++;
        }
        return count;
    }

    private int tileAt(int p, int x, int y) {
        if (bad(p)) return -1;
        if (number(x, y) < 0) return -2;
        for (List<Integer> tile : allTiles(p)) {
            if (tile.contains(16 * x + y)) return (int) Math.round(Math.sqrt(tile.size()));
        }
        throw new IllegalStateException("a point without a tile");
    }

    private int border(int p) {
        if (bad(p)) return -1;
        int ends = 0;
        for (int n : pictures.get(p)) {
            for (int m : neighbours(n)) {
                if (!pictures.get(p).contains(m)) ends++;
            }
        }
        return ends;
    }

    private int regions(int p) {
        if (bad(p)) return -1;
        TreeSet<Integer> left = new TreeSet<>(pictures.get(p));
        int count = 0;
        while (!left.isEmpty()) {
            count++;
            ArrayDeque<Integer> open = new ArrayDeque<>();
            open.add(left.pollFirst());
            while (!open.isEmpty()) {
                for (int m : neighbours(open.remove())) {
                    if (left.remove(m)) open.add(m);
                }
            }
        }
        return count;
    }

    private int next(int p, int after) {
        if (bad(p)) return -1;
        Integer found = pictures.get(p).higher(after);
        return found == null ? -2 : found;
    }

    /** Tiles as the document defines them: the even blocks, without those inside a greater one. */
    private List<List<Integer>> allTiles(int p) {
        List<List<Integer>> tiles = new ArrayList<>();
        TreeSet<Integer> covered = new TreeSet<>();
        for (int s = 16; s >= 1; s /= 2) {
            for (int a = 0; a * s < 16; a++) {
                for (int b = 0; b * s < 16; b++) {
                    List<Integer> block = rectangle(16 * a * s + b * s, 16 * (a * s + s - 1) + b * s + s - 1);
                    List<Integer> set = new ArrayList<>(block);
                    set.retainAll(pictures.get(p));
                    boolean even = set.isEmpty() || set.size() == block.size();
                    if (even && !covered.containsAll(block)) {
                        tiles.add(block);
                        covered.addAll(block);
                    }
                }
            }
        }
        return tiles;
    }

    private void move(int p, IntUnaryOperator to) {
        TreeSet<Integer> moved = new TreeSet<>();
        for (int n : pictures.get(p)) {
            if (to.applyAsInt(n) >= 0) moved.add(to.applyAsInt(n));
        }
        pictures.set(p, moved);
    }

    private static List<Integer> neighbours(int n) {
        int[] candidates = {
            number(n / 16 - 1, n % 16), number(n / 16 + 1, n % 16),
            number(n / 16, n % 16 - 1), number(n / 16, n % 16 + 1)
        };
        List<Integer> found = new ArrayList<>();
        for (int m : candidates) {
            if (m >= 0) found.add(m);
        }
        return found;
    }

    private static List<Integer> rectangle(int low, int high) {
        List<Integer> found = new ArrayList<>();
        for (int n = 0; n < 256; n++) {
            boolean inX = low / 16 <= n / 16 && n / 16 <= high / 16;
            boolean inY = low % 16 <= n % 16 && n % 16 <= high % 16;
            if (inX && inY) found.add(n);
        }
        return found;
    }

    /** The number of a point, or -1 if it isn't one. */
    private static int number(int x, int y) {
        return x < 0 || x > 15 || y < 0 || y > 15 ? -1 : 16 * x + y;
    }

    private static boolean bad(int p) {
        return p != 0 && p != 1 && p != 2;
    }

    private static boolean badRectangle(int low, int high) {
        if (low < 0 || low > 255 || high < 0 || high > 255) return true;
        return low / 16 > high / 16 || low % 16 > high % 16;
    }

    private static int yes(boolean answer) {
        return answer ? 1 : 0;
    }
}
