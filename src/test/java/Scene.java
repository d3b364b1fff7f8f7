/** A state that a test begins from: the points set in each picture, and new objects brought to it. */
final class Scene {
    static final int POINTS = 256;

    static final Scene EMPTY = new Scene("empty pictures", new int[3][0]);
    static final Scene FULL = new Scene("full pictures", new int[][] {all(), all(), all()});
    // Each picture differs from the others, shares points with them, and is
    // changed by every join, copy, turn, shift and zoom that moves it at all.
    static final Scene MIXED = new Scene("mixed pictures", new int[][] {
        {1, 19, 100, 255}, {0, 18, 100, 150}, {15, 100, 150, 240}});
    static final Scene[] EVERY = {EMPTY, FULL, MIXED};

    final String name;
    private final int[][] points;

    Scene(String name, int[][] points) {
        this.name = name;
        this.points = points;
    }

    private static int[] all() {
        int[] numbers = new int[POINTS];
        for (int n = 0; n < POINTS; n++) {
            numbers[n] = n;
        }
        return numbers;
    }

    QuadPictures object() {
        QuadPictures x = new QuadPictures();
        for (int p = 0; p < 3; p++) {
            if (points[p].length == POINTS) {
                x.paint(p, 0, 255, 1);
            } else {
                for (int n : points[p]) {
                    x.paint(p, n, n, 1);
                }
            }
        }
        return x;
    }

    boolean[] picture(int p) {
        boolean[] set = new boolean[POINTS];
        for (int n : points[p]) {
            set[n] = true;
        }
        return set;
    }

    /**
     * Every point of every picture after one call. An object serves 512 calls, so each picture is
     * looked at in an object of its own, brought to the same state by the same calls.
     */
    boolean[][] after(String method, int... arguments) {
        boolean[][] seen = new boolean[3][];
        for (int p = 0; p < 3; p++) {
            QuadPictures x = object();
            call(x, method, arguments);
            seen[p] = look(x, p);
        }
        return seen;
    }

    static boolean[] look(QuadPictures x, int p) {
        boolean[] seen = new boolean[POINTS];
        for (int n = 0; n < POINTS; n++) {
            seen[n] = x.at(p, n / 16, n % 16) == 1;
        }
        return seen;
    }

    static String text(String method, int... a) {
        StringBuilder text = new StringBuilder(method + "(" + a[0]);
        for (int i = 1; i < a.length; i++) {
            text.append(", ").append(a[i]);
        }
        return text + ")";
    }

    static int call(QuadPictures x, String method, int... a) {
        switch (method) {
            case "paint": return x.paint(a[0], a[1], a[2], a[3]);
            case "join": return x.join(a[0], a[1], a[2]);
            case "copy": return x.copy(a[0], a[1]);
            case "turn": return x.turn(a[0], a[1]);
            case "shift": return x.shift(a[0], a[1], a[2]);
            case "zoom": return x.zoom(a[0], a[1], a[2]);
            case "at": return x.at(a[0], a[1], a[2]);
            case "area": return x.area(a[0]);
            case "areaIn": return x.areaIn(a[0], a[1], a[2]);
            case "tiles": return x.tiles(a[0]);
            case "tilesOf": return x.tilesOf(a[0], a[1]);
            case "tileAt": return x.tileAt(a[0], a[1], a[2]);
            case "same": return x.same(a[0], a[1]);
            case "within": return x.within(a[0], a[1]);
            case "border": return x.border(a[0]);
            case "regions": return x.regions(a[0]);
            case "next": return x.next(a[0], a[1]);
            default: throw new IllegalArgumentException(method);
        }
    }
}
