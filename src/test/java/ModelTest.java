/** Long runs of mixed calls, good and wrong, whose answers must be those of the model. */
public final class ModelTest {
    private static final String[] NAMES = {
        "paint", "join", "copy", "turn", "shift", "zoom", "at", "area", "areaIn", "tiles",
        "tilesOf", "tileAt", "same", "within", "border", "regions", "next"
    };
    private static final int[] PARAMETERS = {4, 3, 2, 2, 3, 3, 3, 1, 3, 1, 2, 3, 2, 2, 1, 1, 2};
    private static final int[] ODD = {
        Integer.MIN_VALUE, Integer.MIN_VALUE + 1, -257, -256, -17, -16, -15, -2, -1, 3, 4, 5, 15, 16,
        17, 32, 255, 256, 257, Integer.MAX_VALUE - 1, Integer.MAX_VALUE
    };
    private static final int RUNS = 150;
    // The document promises nothing after the 512th call of an object.
    private static final int CALLS = 512;
    private static final int SHOWN_WRONG = 20;

    private static final Due DUE = new Due();
    private static long seed;

    public static void main(String[] args) {
        for (int run = 0; run < RUNS && DUE.wrong() < SHOWN_WRONG; run++) {
            seed = 1000003L * run + 17;
            oneRun(run);
        }
        for (int run = 0; run < RUNS && DUE.wrong() < SHOWN_WRONG; run++) {
            seed = 7000003L * run + 29;
            wholeStateAfterAFewCalls(run);
        }
        DUE.end();
    }

    private static void oneRun(int run) {
        QuadPictures x = new QuadPictures();
        Model model = new Model();
        for (int call = 0; call < CALLS; call++) {
            compare(run, x, model, pick(NAMES.length));
        }
    }

    /** A few changes, then every point of one picture, so that a wrong point can't hide in a count. */
    private static void wholeStateAfterAFewCalls(int run) {
        QuadPictures x = new QuadPictures();
        Model model = new Model();
        for (int call = 0; call < 30; call++) {
            compare(run, x, model, pick(3) == 0 ? 0 : pick(6));
        }
        for (int n = 0; n < 256; n++) {
            ask(run, x, model, 6, new int[] {run % 3, n / 16, n % 16, 0});
        }
        for (int n = 0; n < 225; n++) {
            ask(run, x, model, 11, new int[] {run % 3, n / 15, n % 15, 0});
        }
    }

    private static void compare(int run, QuadPictures x, Model model, int method) {
        int[] a = new int[4];
        for (int i = 0; i < PARAMETERS[method]; i++) {
            a[i] = pick(60) == 0 ? ODD[pick(ODD.length)] : usual(method, i, a);
        }
        ask(run, x, model, method, a);
    }

    private static void ask(int run, QuadPictures x, Model model, int method, int[] a) {
        StringBuilder text = new StringBuilder("run " + run + ": " + NAMES[method] + "(" + a[0]);
        for (int i = 1; i < PARAMETERS[method]; i++) {
            text.append(", ").append(a[i]);
        }
        DUE.due(text + ")", call(x, method, a[0], a[1], a[2], a[3]), model.call(method, a[0], a[1], a[2], a[3]));
    }

    private static int usual(int method, int i, int[] a) {
        boolean kindFirst = method == 1 || method == 3;
        boolean pictureSecond = method == 2 || method == 5 || method == 12 || method == 13;
        if (kindFirst) return i == 0 ? pick(method == 1 ? 4 : 3) : pick(3);
        if (i == 0 || i == 1 && pictureSecond) return pick(3);
        switch (method) {
            case 0: return i == 3 ? pick(3) : corner(i, a);
            case 4: return pick(4) == 0 ? pick(31) - 15 : pick(7) - 3;
            case 5: return pick(4);
            case 8: return corner(i, a);
            case 10: return 1 << pick(5);
            case 16: return pick(260) - 2;
            default: return pick(16);
        }
    }

    /** Low is any point; high lies mostly above it, and often so that whole blocks are painted. */
    private static int corner(int i, int[] a) {
        if (i == 1) return pick(2) == 0 ? 64 * pick(4) + 4 * pick(4) : pick(256);
        if (pick(30) == 0) return pick(256);
        int low = a[1] & 255;
        if (pick(2) == 0) return Math.min(15, low / 16 + 3) * 16 + Math.min(15, low % 16 + 3);
        return 16 * (low / 16 + pick(16 - low / 16)) + low % 16 + pick(16 - low % 16);
    }

    private static int call(QuadPictures x, int method, int a, int b, int c, int d) {
        switch (method) {
            case 0: return x.paint(a, b, c, d);
            case 1: return x.join(a, b, c);
            case 2: return x.copy(a, b);
            case 3: return x.turn(a, b);
            case 4: return x.shift(a, b, c);
            case 5: return x.zoom(a, b, c);
            case 6: return x.at(a, b, c);
            case 7: return x.area(a);
            case 8: return x.areaIn(a, b, c);
            case 9: return x.tiles(a);
            case 10: return x.tilesOf(a, b);
            case 11: return x.tileAt(a, b, c);
            case 12: return x.same(a, b);
            case 13: return x.within(a, b);
            case 14: return x.border(a);
            case 15: return x.regions(a);
            default: return x.next(a, b);
        }
    }

    /** A fixed sequence, so that a failure comes again on the next run. */
    private static int pick(int bound) {
        seed = seed * 6364136223846793005L + 1442695040888963407L;
        return (int) ((seed >>> 33) % bound);
    }
}
