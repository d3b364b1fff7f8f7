import java.util.Arrays;

/**
 * The document's sentences that name a boundary, one test for each: the last good value on each side,
 * empty and full pictures, the same picture given twice, and what lies at the picture's rim. Where
 * there are few enough cases, all of them. (RefusalsTest has the wrong values.)
 */
public final class EdgesTest {
    private static final int MIN = Integer.MIN_VALUE;
    private static final int MAX = Integer.MAX_VALUE;
    private static final int[] CORNERS = {0, 15, 240, 255};

    private static final Due DUE = new Due();
    private static String sentence = "";

    public static void main(String[] args) {
        newObject();
        everyCallUpToThe512th();
        noQuestionChangesAnything();
        threePictures();

        everyRectangleIsPaintedOrRefused();
        paintModes();

        joinOfEmptyAndFull();
        joinOfEveryPair();
        copyOfEveryPair();

        turnOfEveryPoint();
        turnOfEmptyAndFull();
        shiftToEverySide();
        shiftIsNotCarriedOver();
        zoomOfEveryPoint();
        zoomOfEmptyAndFull();

        atEveryPoint();
        areaUpToTheFullPicture();
        areaInEveryRectangle();

        tilesOfEmptyAndFull();
        everyBlock();
        squaresThatAreNoBlocks();
        greaterBlocksTakeTheLesser();
        tileSizesAddUp();

        sameAndWithinOfEmptyAndFull();
        samePictureTwice();
        onePointApart();

        borderOfEmptyAndFull();
        regionsOfEmptyAndFull();
        everyTwoPoints();
        longRegions();

        nextAfterEveryNumber();
        nextOfEmptyAndFull();
        DUE.end();
    }

    // Terms, and promise 1

    private static void newObject() {
        sentence = "1: no point is set";
        for (int p = 0; p < 3; p++) {
            due("picture " + p, Scene.look(new QuadPictures(), p), new boolean[256]);
        }
        sentence = "1: every object has pictures of its own";
        QuadPictures full = Scene.FULL.object();
        QuadPictures later = new QuadPictures();
        due("area of the later one", later.area(0), 0);
        due("its point set", later.paint(0, 7, 7, 1), 1);
        due("area of the earlier one", full.area(0), 256);
        due("its points taken away", full.paint(0, 0, 255, 0), 0);
        due("area of the later one", later.area(0), 1);
    }

    private static void everyCallUpToThe512th() {
        sentence = "an object is used for at most 512 calls";
        // Each as call 512, after 511 calls have left the points 17 .. 34 of picture 0 set.
        lastCall(240, "paint", 1, 0, 254, 1);
        lastCall(4, "join", 1, 1, 0);
        lastCall(0, "copy", 1, 0);
        lastCall(22, "turn", 0, 0);
        lastCall(1, "shift", 0, -2, -2);
        lastCall(16, "zoom", 1, 0, 0);
        lastCall(1, "at", 0, 2, 2);
        lastCall(4, "area", 0);
        lastCall(4, "areaIn", 0, 0, 255);
        lastCall(22, "tiles", 0);
        lastCall(16, "tilesOf", 0, 1);
        lastCall(1, "tileAt", 0, 2, 2);
        lastCall(0, "same", 0, 1);
        lastCall(0, "within", 0, 1);
        lastCall(8, "border", 0);
        lastCall(1, "regions", 0);
        lastCall(17, "next", 0, 0);
    }

    private static void lastCall(int answer, String method, int... arguments) {
        QuadPictures x = new QuadPictures();
        for (int call = 1; call < 512; call++) {
            due("call " + call, x.paint(0, 17, 34, 2), call % 2 == 1 ? 4 : 0);
        }
        due("call 512, " + Scene.text(method, arguments), Scene.call(x, method, arguments), answer);
    }

    private static void noQuestionChangesAnything() {
        sentence = "no question changes anything";
        for (int p = 0; p < 3; p++) {
            unchanged("at", p, 0, 0);
            unchanged("at", p, 15, 15);
            unchanged("area", p);
            unchanged("areaIn", p, 0, 255);
            unchanged("areaIn", p, 100, 100);
            unchanged("tiles", p);
            for (int size = 1; size <= 16; size *= 2) {
                unchanged("tilesOf", p, size);
            }
            unchanged("tileAt", p, 0, 0);
            unchanged("tileAt", p, 15, 15);
            for (int q = 0; q < 3; q++) {
                unchanged("same", p, q);
                unchanged("within", p, q);
            }
            unchanged("border", p);
            unchanged("regions", p);
            unchanged("next", p, MIN);
            unchanged("next", p, 99);
            unchanged("next", p, MAX);
        }
    }

    /** Every point stands as before, and the question, asked again, has the same answer. */
    private static void unchanged(String method, int... arguments) {
        String text = Scene.text(method, arguments);
        for (Scene scene : Scene.EVERY) {
            boolean[][] seen = scene.after(method, arguments);
            for (int p = 0; p < 3; p++) {
                due(scene.name + ", picture " + p + " after " + text, seen[p], scene.picture(p));
            }
            QuadPictures x = scene.object();
            int first = Scene.call(x, method, arguments);
            due(scene.name + ", again " + text, Scene.call(x, method, arguments), first);
        }
    }

    private static void threePictures() {
        sentence = "a picture is good if it is 0 .. 2";
        for (int p = 0; p < 3; p++) {
            int q = (p + 1) % 3;
            QuadPictures x = Scene.EMPTY.object();
            due("paint", x.paint(p, 119, 136, 1), 4);
            due("join", x.join(1, p, q), 4);
            due("join of another", x.join(1, q, p), 4);
            due("copy", x.copy(q, p), 0);
            due("turn", x.turn(0, p), 40);
            due("shift", x.shift(p, 0, 0), 4);
            due("zoom", x.zoom(q, p, 0), 4);
            due("at", x.at(p, 7, 7), 1);
            due("area", x.area(p), 4);
            due("areaIn", x.areaIn(p, 0, 119), 1);
            due("tiles", x.tiles(p), 40);
            due("tilesOf", x.tilesOf(p, 1), 16);
            due("tileAt", x.tileAt(p, 0, 0), 4);
            due("same", x.same(p, q), 0);
            due("within", x.within(p, q), 0);
            due("border", x.border(p), 8);
            due("regions", x.regions(p), 1);
            due("next", x.next(p, 0), 119);
        }
    }

    // Promise 2

    /** Each pair of numbers, good or not, on an empty and on a full picture. */
    private static void everyRectangleIsPaintedOrRefused() {
        sentence = "2: low and high in 0 .. 255, x1 <= x2 and y1 <= y2; the points from x1, y1 to x2, y2";
        for (int low = -18; low <= 273; low++) {
            // All the highs together need more calls than one object serves.
            QuadPictures x = new QuadPictures();
            int calls = 0;
            for (int high = -18; high <= 273; high++) {
                if (calls > 500) {
                    x = new QuadPictures();
                    calls = 0;
                }
                int points = pointsOfRectangle(low, high);
                String text = low + ", " + high;
                due("set " + text, x.paint(1, low, high, 1), points);
                calls++;
                if (points > 0) {
                    due("first of " + text, x.next(1, -1), low);
                    due("inside " + text, x.areaIn(1, low, high), points);
                    due("the last of " + text, x.at(1, high / 16, high % 16), 1);
                    due("not set again " + text, x.paint(1, low, high, 0), 0);
                    calls += 4;
                }
            }
        }
        for (int low = 0; low <= 255; low += 17) {
            QuadPictures x = Scene.FULL.object();
            for (int high = low; high <= 255; high += 17) {
                int points = pointsOfRectangle(low, high);
                due("made not set " + low + ", " + high, x.paint(2, low, high, 0), 256 - points);
                due("turned over " + low + ", " + high, x.paint(2, low, high, 2), 256);
            }
        }
    }

    /** How many points a rectangle has, or -2. */
    private static int pointsOfRectangle(int low, int high) {
        boolean inRange = low >= 0 && low <= 255 && high >= 0 && high <= 255;
        if (!inRange || low / 16 > high / 16 || low % 16 > high % 16) {
            return -2;
        }
        return (high / 16 - low / 16 + 1) * (high % 16 - low % 16 + 1);
    }

    private static void paintModes() {
        sentence = "2: mode 0 makes its points not set, 1 set, 2 turns each of them over";
        int[][] rectangles = {{0, 255}, {0, 0}, {255, 255}, {15, 15}, {240, 240}, {0, 15}, {240, 255},
            {0, 240}, {15, 255}, {17, 238}, {100, 100}, {0, 119}};
        for (Scene scene : Scene.EVERY) {
            for (int p = 0; p < 3; p++) {
                for (int mode = 0; mode < 3; mode++) {
                    for (int[] r : rectangles) {
                        paintOne(scene, p, r[0], r[1], mode);
                    }
                }
            }
        }
    }

    private static void paintOne(Scene scene, int p, int low, int high, int mode) {
        boolean[] want = scene.picture(p);
        for (int n = 0; n < 256; n++) {
            boolean inX = n / 16 >= low / 16 && n / 16 <= high / 16;
            boolean inY = n % 16 >= low % 16 && n % 16 <= high % 16;
            if (inX && inY) {
                want[n] = mode == 2 ? !want[n] : mode == 1;
            }
        }
        changes(scene, p, want, count(want), "paint", p, low, high, mode);
    }

    // Promises 3 and 4

    private static void joinOfEmptyAndFull() {
        sentence = "3: in p and in q; in at least one; in just one; in p and not in q";
        // Rows: kind. Columns: p empty and q empty, p empty and q full, p full and q empty, both full.
        int[][] due = {{0, 0, 0, 256}, {0, 256, 256, 256}, {0, 256, 256, 0}, {0, 0, 256, 0}};
        for (int kind = 0; kind < 4; kind++) {
            for (int state = 0; state < 4; state++) {
                QuadPictures x = new QuadPictures();
                x.paint(2, 0, 255, state / 2);
                x.paint(0, 0, 255, state % 2);
                due("kind " + kind + ", state " + state, x.join(kind, 2, 0), due[kind][state]);
                due("p now, kind " + kind + ", state " + state, x.area(2), due[kind][state]);
                due("q now, kind " + kind + ", state " + state, x.area(0), state % 2 == 1 ? 256 : 0);
            }
        }
    }

    /** Also p = q: the points common to it and itself, of it or itself, of just one, of none. */
    private static void joinOfEveryPair() {
        sentence = "3: picture p becomes, and q and the third do not";
        for (Scene scene : Scene.EVERY) {
            for (int kind = 0; kind < 4; kind++) {
                for (int p = 0; p < 3; p++) {
                    for (int q = 0; q < 3; q++) {
                        joinOne(scene, kind, p, q);
                    }
                }
            }
        }
        int[] twice = {4, 4, 0, 0};
        for (int kind = 0; kind < 4; kind++) {
            due("with itself, kind " + kind, Scene.MIXED.object().join(kind, 1, 1), twice[kind]);
        }
    }

    private static void joinOne(Scene scene, int kind, int p, int q) {
        boolean[] inP = scene.picture(p);
        boolean[] inQ = scene.picture(q);
        boolean[] want = new boolean[256];
        for (int n = 0; n < 256; n++) {
            int both = (inP[n] ? 1 : 0) + (inQ[n] ? 1 : 0);
            boolean[] kinds = {both == 2, both >= 1, both == 1, inP[n] && both == 1};
            want[n] = kinds[kind];
        }
        changes(scene, p, want, count(want), "join", kind, p, q);
    }

    private static void copyOfEveryPair() {
        sentence = "4: picture p becomes a copy of q";
        for (Scene scene : Scene.EVERY) {
            for (int p = 0; p < 3; p++) {
                for (int q = 0; q < 3; q++) {
                    changes(scene, p, scene.picture(q), 0, "copy", p, q);
                }
            }
        }
        sentence = "4: a copy, which what is done to q later does not reach";
        QuadPictures x = Scene.FULL.object();
        due("emptied", x.paint(1, 0, 255, 0), 0);
        due("empty onto full", x.copy(0, 1), 0);
        due("area", x.area(0), 0);
        due("full onto empty", x.copy(0, 2), 0);
        due("area", x.area(0), 256);
        due("the full one emptied", x.paint(2, 0, 255, 0), 0);
        due("area of the copy", x.area(0), 256);
        due("the copy less a point", x.paint(0, 255, 255, 0), 255);
        due("area of what it was copied from", x.area(2), 0);
    }

    // Promises 5 to 7

    private static void turnOfEveryPoint() {
        sentence = "5: kind 0 (x, y) to (y, 15 - x); 1 to (15 - x, y); 2 to (y, x)";
        for (int n = 0; n < 256; n++) {
            int a = n / 16;
            int b = n % 16;
            int[] moved = {16 * b + 15 - a, 16 * (15 - a) + b, 16 * b + a};
            for (int kind = 0; kind < 3; kind++) {
                int p = (n + kind) % 3;
                Scene one = only(p, n);
                changes(one, p, picture(moved[kind]), 13, "turn", kind, p);
            }
        }
        int[][] corners = {{15, 255, 0, 240}, {240, 255, 0, 15}, {0, 240, 15, 255}};
        for (int kind = 0; kind < 3; kind++) {
            for (int c = 0; c < 4; c++) {
                QuadPictures x = only(0, CORNERS[c]).object();
                due("a corner, kind " + kind, x.turn(kind, 0), 13);
                due("is now, kind " + kind, x.next(0, -1), corners[kind][c]);
            }
        }
    }

    private static void turnOfEmptyAndFull() {
        sentence = "5: otherwise answers how many tiles the picture has now";
        for (int kind = 0; kind < 3; kind++) {
            for (int p = 0; p < 3; p++) {
                changes(Scene.EMPTY, p, new boolean[256], 1, "turn", kind, p);
                changes(Scene.FULL, p, Scene.FULL.picture(p), 1, "turn", kind, p);
            }
            QuadPictures x = new QuadPictures();
            checker(x, 1);
            due("no two neighbours alike, kind " + kind, x.turn(kind, 1), 256);
            due("the other pictures are not asked", x.turn(kind, 0), 1);
        }
    }

    /** Every good distance, -15 and 15 among them, on a full and on an empty picture. */
    private static void shiftToEverySide() {
        sentence = "6: moves all set points by (dx, dy), each in -15 .. 15; points that would leave are lost";
        for (int dx = -15; dx <= 15; dx++) {
            for (int dy = -15; dy <= 15; dy++) {
                boolean[] want = new boolean[256];
                boolean[] wantMixed = new boolean[256];
                boolean[] mixed = Scene.MIXED.picture(1);
                for (int n = 0; n < 256; n++) {
                    int a = n / 16 + dx;
                    int b = n % 16 + dy;
                    if (a >= 0 && a <= 15 && b >= 0 && b <= 15) {
                        want[16 * a + b] = true;
                        wantMixed[16 * a + b] = mixed[n];
                    }
                }
                int left = (16 - Math.abs(dx)) * (16 - Math.abs(dy));
                changes(Scene.FULL, 2, want, left, "shift", 2, dx, dy);
                changes(Scene.MIXED, 1, wantMixed, count(wantMixed), "shift", 1, dx, dy);
                due("an empty one", new QuadPictures().shift(0, dx, dy), 0);
            }
        }
    }

    private static void shiftIsNotCarriedOver() {
        sentence = "6: points that would leave the picture are lost, on each side";
        int[][] steps = {{0, 1, 15}, {0, -1, 16}, {1, 0, 240}, {-1, 0, 0}, {0, 1, 255}, {0, -1, 0},
            {1, 0, 255}, {-1, 0, 15}, {15, 0, 16}, {-15, 0, 239}, {0, 15, 1}, {0, -15, 254}};
        for (int[] s : steps) {
            QuadPictures x = only(0, s[2]).object();
            due("point " + s[2] + " by " + s[0] + ", " + s[1], x.shift(0, s[0], s[1]), 0);
            due("is nowhere", x.next(0, MIN), -2);
            due("nor does it come back", x.shift(0, -s[0], -s[1]), 0);
        }
        sentence = "6: by (0, 0) nothing moves";
        for (Scene scene : Scene.EVERY) {
            for (int p = 0; p < 3; p++) {
                changes(scene, p, scene.picture(p), count(scene.picture(p)), "shift", p, 0, 0);
            }
        }
    }

    /** Every point, every quarter, onto another picture and onto itself. */
    private static void zoomOfEveryPoint() {
        sentence = "7: (x, y) of p is set if (8 * a + x / 2, 8 * b + y / 2) of q was (whole quotients)";
        for (int n = 0; n < 256; n++) {
            int q = n % 3;
            Scene one = only(q, n);
            for (int quarter = 0; quarter < 4; quarter++) {
                boolean inside = n / 128 == quarter / 2 && n % 16 / 8 == quarter % 2;
                int corner = 32 * (n / 16 % 8) + 2 * (n % 8);
                boolean[] want = inside ? picture(corner, corner + 1, corner + 16, corner + 17) : picture();
                int p = (q + 1) % 3;
                changes(one, p, want, inside ? 4 : 0, "zoom", p, q, quarter);
                changes(one, q, want, inside ? 4 : 0, "zoom", q, q, quarter);
            }
        }
        sentence = "7: it is 2 * a + b";
        QuadPictures x = only(0, 7).object();
        due("quarter 0: (0, 7) is in it", x.zoom(1, 0, 0), 4);
        due("quarter 1: not", x.zoom(1, 0, 1), 0);
        x = only(0, 8).object();
        due("quarter 1: (0, 8) is in it", x.zoom(1, 0, 1), 4);
        due("quarter 2: not", x.zoom(1, 0, 2), 0);
        x = only(0, 128).object();
        due("quarter 2: (8, 0) is in it", x.zoom(1, 0, 2), 4);
        due("quarter 1: not", x.zoom(1, 0, 1), 0);
        x = only(0, 136).object();
        due("quarter 3: (8, 8) is in it", x.zoom(1, 0, 3), 4);
        due("quarter 0: not", x.zoom(1, 0, 0), 0);
    }

    private static void zoomOfEmptyAndFull() {
        sentence = "7: of an empty and of a full picture; p becomes it whole";
        for (int quarter = 0; quarter < 4; quarter++) {
            for (int p = 0; p < 3; p++) {
                for (int q = 0; q < 3; q++) {
                    changes(Scene.EMPTY, p, new boolean[256], 0, "zoom", p, q, quarter);
                    changes(Scene.FULL, p, Scene.FULL.picture(p), 256, "zoom", p, q, quarter);
                }
            }
            QuadPictures x = Scene.FULL.object();
            x.paint(1, 0, 255, 0);
            due("an empty one over a full one", x.zoom(0, 1, quarter), 0);
            due("a full one over an empty one", x.zoom(1, 2, quarter), 256);
        }
    }

    // Promises 8 to 10

    private static void atEveryPoint() {
        sentence = "8: 1 if the point is set, otherwise 0; x and y in 0 .. 15";
        for (int n = 0; n < 256; n++) {
            QuadPictures x = only(2, n).object();
            for (int m = 0; m < 256; m++) {
                due("at " + m, x.at(2, m / 16, m % 16), m == n ? 1 : 0);
            }
            due("in picture 0", x.at(0, n / 16, n % 16), 0);
            due("in picture 1", x.at(1, n / 16, n % 16), 0);
        }
    }

    private static void areaUpToTheFullPicture() {
        sentence = "9: how many points are set";
        QuadPictures x = new QuadPictures();
        due("empty", x.area(0), 0);
        for (int n = 0; n < 256; n++) {
            if (n == 200) {
                x = new QuadPictures();
                x.paint(0, 0, 16 * 11 + 15, 1);
                x.paint(0, 16 * 12, 16 * 12 + 7, 1);
            }
            x.paint(0, n, n, 1);
            due("points 0 .. " + n, x.area(0), n + 1);
        }
        due("another picture", x.area(1), 0);
        due("another picture", x.area(2), 0);
    }

    private static void areaInEveryRectangle() {
        sentence = "10: how many points of the rectangle are set";
        for (int low = -18; low <= 273; low++) {
            QuadPictures full = Scene.FULL.object();
            QuadPictures empty = new QuadPictures();
            for (int high = -18; high <= 273; high++) {
                int points = pointsOfRectangle(low, high);
                due("full " + low + ", " + high, full.areaIn(0, low, high), points);
                due("empty " + low + ", " + high, empty.areaIn(2, low, high), Math.min(points, 0));
            }
        }
        sentence = "10: the rim of the rectangle is in it, what lies beside it is not";
        for (int n = 0; n < 256; n++) {
            QuadPictures x = only(1, n).object();
            boolean inside = n / 16 >= 3 && n / 16 <= 12 && n % 16 >= 5 && n % 16 <= 9;
            due("point " + n, x.areaIn(1, 16 * 3 + 5, 16 * 12 + 9), inside ? 1 : 0);
            due("just point " + n, x.areaIn(1, n, n), 1);
        }
    }

    // Promises 11 to 13

    private static void tilesOfEmptyAndFull() {
        sentence = "11 to 13: a block is even if all its points are set, or none";
        for (int p = 0; p < 3; p++) {
            for (Scene scene : new Scene[] {Scene.EMPTY, Scene.FULL}) {
                QuadPictures x = scene.object();
                due(scene.name + " tiles", x.tiles(p), 1);
                for (int size = 1; size <= 16; size *= 2) {
                    due(scene.name + " tilesOf " + size, x.tilesOf(p, size), size == 16 ? 1 : 0);
                }
                for (int n = 0; n < 256; n++) {
                    due(scene.name + " tileAt " + n, x.tileAt(p, n / 16, n % 16), 16);
                }
            }
        }
    }

    /** Each block of each size, set alone, and then not set alone. */
    private static void everyBlock() {
        sentence = "11 to 13: a tile is an even block that is not part of a greater even block";
        int[] tiles = {13, 10, 7, 4, 1};
        for (int level = 0; level < 5; level++) {
            int size = 1 << level;
            for (int a = 0; a < 16; a += size) {
                for (int b = 0; b < 16; b += size) {
                    QuadPictures x = new QuadPictures();
                    x.paint(1, 16 * a + b, 16 * (a + size - 1) + b + size - 1, 1);
                    block(x, a, b, size, tiles[level]);
                    x.paint(1, 0, 255, 2);
                    block(x, a, b, size, tiles[level]);
                }
            }
        }
    }

    private static void block(QuadPictures x, int a, int b, int size, int tiles) {
        String text = "block of " + size + " at " + a + ", " + b;
        due(text + ", tiles", x.tiles(1), tiles);
        due(text + ", its first point", x.tileAt(1, a, b), size);
        due(text + ", its last point", x.tileAt(1, a + size - 1, b + size - 1), size);
        due(text + ", its other corner", x.tileAt(1, a, b + size - 1), size);
        due(text + ", its other corner", x.tileAt(1, a + size - 1, b), size);
        for (int other = 1; other <= 16; other *= 2) {
            // Three of each greater size beside it, and with those of its own size, four.
            int count = other < size ? 0 : other == size ? (size == 16 ? 1 : 4) : other == 16 ? 0 : 3;
            due(text + ", tilesOf " + other, x.tilesOf(1, other), count);
        }
        if (size < 16) {
            due(text + ", beside it", x.tileAt(1, a ^ size, b), size);
            due(text + ", beside it", x.tileAt(1, a, b ^ size), size);
        }
    }

    private static void squaresThatAreNoBlocks() {
        sentence = "11 to 13: a block begins at a * s and b * s";
        QuadPictures x = new QuadPictures();
        x.paint(0, 16 * 4 + 4, 16 * 11 + 11, 1);
        due("a square of 8 in the middle, of 8", x.tilesOf(0, 8), 0);
        due("of 4", x.tilesOf(0, 4), 16);
        due("in all", x.tiles(0), 16);
        x.paint(1, 16 * 8 + 2, 16 * 11 + 5, 1);
        due("a square of 4 moved by 2 in y, of 4", x.tilesOf(1, 4), 2);
        due("of 2", x.tilesOf(1, 2), 8);
        due("of 8", x.tilesOf(1, 8), 3);
        x.paint(2, 16 * 1, 16 * 2 + 1, 1);
        due("a square of 2 moved by 1 in x, of 2", x.tilesOf(2, 2), 2);
        due("of 1", x.tilesOf(2, 1), 8);
    }

    private static void greaterBlocksTakeTheLesser() {
        sentence = "11 to 13: four even blocks alike are one";
        for (int size = 1; size < 16; size *= 2) {
            QuadPictures x = new QuadPictures();
            int end = 16 * (size - 1) + size - 1;
            x.paint(0, 0, end, 1);
            x.paint(0, size, end + size, 1);
            x.paint(0, 16 * size, end + 16 * size, 1);
            due("three of " + size, x.tileAt(0, 0, 0), size);
            due("three of " + size + ", the fourth", x.tileAt(0, 2 * size - 1, 2 * size - 1), size);
            x.paint(0, 17 * size, end + 17 * size, 1);
            due("four of " + size, x.tileAt(0, 0, 0), 2 * size);
            due("four of " + size + ", none left", x.tilesOf(0, size), 0);
            x.paint(0, 17 * size, 17 * size, 0);
            due("a point taken from the fourth", x.tileAt(0, size - 1, size - 1), size);
            due("the fourth", x.tileAt(0, size, size), 1);
        }
        sentence = "11 to 13: four even blocks that are not alike are four";
        QuadPictures x = new QuadPictures();
        checkerOf(x, 0, 8);
        due("quarters in turn", x.tiles(0), 4);
        due("quarters in turn", x.tilesOf(0, 8), 4);
    }

    private static void checkerOf(QuadPictures x, int p, int size) {
        for (int a = 0; a < 16; a += 2 * size) {
            x.paint(p, 16 * a, 16 * (a + size - 1) + 15, 2);
            x.paint(p, a, 240 + a + size - 1, 2);
        }
    }

    private static void tileSizesAddUp() {
        sentence = "11 to 13: every point is in just one tile";
        for (int size = 1; size <= 16; size *= 2) {
            QuadPictures x = new QuadPictures();
            checkerOf(x, 2, size);
            x.paint(2, 0, 0, 2);
            x.paint(2, 200, 203, 2);
            int[] bySize = new int[17];
            for (int n = 0; n < 256; n++) {
                bySize[x.tileAt(2, n / 16, n % 16)]++;
            }
            int tiles = 0;
            int points = 0;
            for (int of = 1; of <= 16; of *= 2) {
                int count = x.tilesOf(2, of);
                due("points in tiles of " + of, bySize[of], count * of * of);
                tiles += count;
                points += count * of * of;
            }
            due("points in all", points, 256);
            due("tiles in all", x.tiles(2), tiles);
        }
    }

    // Promises 14 and 15

    private static void sameAndWithinOfEmptyAndFull() {
        sentence = "14 and 15: of empty and full pictures";
        QuadPictures x = Scene.EMPTY.object();
        due("empty, empty: same", x.same(0, 2), 1);
        due("empty, empty: within", x.within(0, 2), 1);
        x.paint(2, 0, 255, 1);
        due("empty, full: same", x.same(0, 2), 0);
        due("full, empty: same", x.same(2, 0), 0);
        due("empty in full", x.within(0, 2), 1);
        due("full in empty", x.within(2, 0), 0);
        x.paint(0, 0, 255, 1);
        due("full, full: same", x.same(0, 2), 1);
        due("full, full: within", x.within(0, 2), 1);
    }

    private static void samePictureTwice() {
        sentence = "14 and 15: a picture is the same as itself and within itself";
        for (Scene scene : Scene.EVERY) {
            QuadPictures x = scene.object();
            for (int p = 0; p < 3; p++) {
                due(scene.name + " same " + p, x.same(p, p), 1);
                due(scene.name + " within " + p, x.within(p, p), 1);
            }
        }
    }

    /** Each point in turn is the only one in which two pictures differ. */
    private static void onePointApart() {
        for (int n = 0; n < 256; n++) {
            int p = n % 3;
            int q = (n + 1) % 3;
            sentence = "14 and 15: one point apart, the others not set";
            onePointApart(only(p, n).object(), p, q, n);
            sentence = "14 and 15: one point apart, the others set";
            QuadPictures x = Scene.FULL.object();
            x.paint(q, n, n, 0);
            onePointApart(x, p, q, n);
        }
        sentence = "14 and 15: as many points, but others";
        QuadPictures x = new QuadPictures();
        x.paint(0, 0, 127, 1);
        x.paint(1, 128, 255, 1);
        due("same", x.same(0, 1), 0);
        due("within", x.within(0, 1), 0);
        due("within, turned about", x.within(1, 0), 0);
    }

    private static void onePointApart(QuadPictures x, int greater, int lesser, int n) {
        due("same, " + n, x.same(greater, lesser), 0);
        due("same turned about, " + n, x.same(lesser, greater), 0);
        due("the lesser in the greater, " + n, x.within(lesser, greater), 1);
        due("the greater in the lesser, " + n, x.within(greater, lesser), 0);
    }

    // Promises 16 and 17

    private static void borderOfEmptyAndFull() {
        sentence = "16: pairs of neighbours of which just one is set";
        for (int p = 0; p < 3; p++) {
            due("empty", Scene.EMPTY.object().border(p), 0);
            due("full", Scene.FULL.object().border(p), 0);
        }
        QuadPictures x = new QuadPictures();
        checker(x, 0);
        due("every pair there is", x.border(0), 480);
        sentence = "16: what is over the rim is no neighbour";
        int[][] rims = {{0, 15}, {240, 255}, {0, 240}, {15, 255}};
        for (int[] rim : rims) {
            QuadPictures y = new QuadPictures();
            y.paint(0, rim[0], rim[1], 1);
            due("the rim " + rim[0] + ", " + rim[1], y.border(0), 16);
            y.paint(0, 0, 255, 2);
            due("all but the rim " + rim[0] + ", " + rim[1], y.border(0), 16);
        }
        for (int half = 0; half < 2; half++) {
            QuadPictures y = new QuadPictures();
            y.paint(0, 0, half == 0 ? 127 : 247, 1);
            due("a half", y.border(0), 16);
        }
    }

    private static void regionsOfEmptyAndFull() {
        sentence = "17: how many regions the picture has";
        for (int p = 0; p < 3; p++) {
            due("empty", Scene.EMPTY.object().regions(p), 0);
            due("full", Scene.FULL.object().regions(p), 1);
        }
        QuadPictures x = new QuadPictures();
        checker(x, 2);
        due("the most there can be", x.regions(2), 128);
        x.paint(2, 0, 255, 2);
        due("the other way round", x.regions(2), 128);
    }

    /** Every two points, set alone and, for the border, not set alone. */
    private static void everyTwoPoints() {
        sentence = "16 and 17: neighbours differ by 1 in x or in y, and not in the other";
        for (int n = 0; n < 256; n++) {
            QuadPictures x = new QuadPictures();
            x.paint(0, n, n, 1);
            due("border of " + n, x.border(0), neighbours(n));
            due("regions of " + n, x.regions(0), 1);
            int calls = 3;
            for (int m = n + 1; m < 256; m++) {
                if (calls > 500) {
                    x = only(0, n).object();
                    calls = 1;
                }
                int apart = Math.abs(n / 16 - m / 16) + Math.abs(n % 16 - m % 16);
                int border = neighbours(n) + neighbours(m) - (apart == 1 ? 2 : 0);
                x.paint(0, m, m, 1);
                due("regions of " + n + " and " + m, x.regions(0), apart == 1 ? 1 : 2);
                due("border of " + n + " and " + m, x.border(0), border);
                x.paint(0, 0, 255, 2);
                due("border of all but " + n + " and " + m, x.border(0), border);
                x.paint(0, 0, 255, 2);
                x.paint(0, m, m, 0);
                calls += 7;
            }
        }
    }

    private static int neighbours(int n) {
        int atRim = (n / 16 % 15 == 0 ? 1 : 0) + (n % 16 % 15 == 0 ? 1 : 0);
        return 4 - atRim;
    }

    private static void longRegions() {
        sentence = "17: joined by a row of set points, however long";
        for (int kind = 0; kind < 3; kind++) {
            QuadPictures x = new QuadPictures();
            spiral(x, 1);
            x.turn(kind, 1);
            due("a spiral, kind " + kind, x.regions(1), 1);
            int cut = x.next(1, 16 * 7 + 8);
            x.paint(1, 0, 255, 2);
            due("what lies between its arms, kind " + kind, x.regions(1), 1);
            x.paint(1, 0, 255, 2);
            x.paint(1, cut, cut, 0);
            due("cut, kind " + kind, x.regions(1), 2);
        }
        sentence = "17: a greatest set";
        QuadPictures x = new QuadPictures();
        x.paint(0, 0, 255, 1);
        x.paint(0, 17, 238, 0);
        due("the rim", x.regions(0), 1);
        x.paint(0, 8, 8, 0);
        due("the rim cut once", x.regions(0), 1);
        x.paint(0, 248, 248, 0);
        due("the rim cut twice", x.regions(0), 2);
        x.paint(0, 16 * 7 + 7, 16 * 7 + 7, 1);
        due("a point amid it", x.regions(0), 3);
    }

    /** One line from the outside in, with a line of points not set beside it. */
    private static void spiral(QuadPictures x, int p) {
        int[][] lines = {{0, 15}, {15, 255}, {240, 255}, {32, 240}, {32, 45}, {45, 221}, {210, 221}, {66, 210},
            {66, 75}, {75, 187}, {180, 187}, {100, 180}, {100, 105}, {105, 153}, {150, 153}, {134, 150}};
        for (int[] line : lines) {
            x.paint(p, line[0], line[1], 1);
        }
    }

    // Promise 18

    private static void nextAfterEveryNumber() {
        sentence = "18: the least number of a set point that is greater than after";
        for (int n = 0; n < 256; n++) {
            QuadPictures x = only(n % 3, n).object();
            for (int after = -2; after <= 257; after++) {
                due("point " + n + " after " + after, x.next(n % 3, after), after < n ? n : -2);
            }
            due("another picture", x.next((n + 1) % 3, -1), -2);
        }
        sentence = "18: any int";
        for (int n : CORNERS) {
            QuadPictures x = only(0, n).object();
            for (int after : new int[] {MIN, MIN + 1, -65536, -257, -256, -17, -16, -2, -1}) {
                due("point " + n + " after " + after, x.next(0, after), n);
            }
            for (int after : new int[] {255, 256, 257, 511, 512, 768, 65536, MAX - 1, MAX}) {
                due("point " + n + " after " + after, x.next(0, after), -2);
            }
        }
    }

    private static void nextOfEmptyAndFull() {
        sentence = "18: of an empty and of a full picture";
        QuadPictures full = Scene.FULL.object();
        QuadPictures empty = new QuadPictures();
        for (int after = -2; after <= 257; after++) {
            due("full after " + after, full.next(0, after), after > 254 ? -2 : Math.max(0, after + 1));
            due("empty after " + after, empty.next(0, after), -2);
        }
        for (int after : new int[] {MIN, MAX}) {
            due("full after " + after, full.next(1, after), after == MIN ? 0 : -2);
            due("empty after " + after, empty.next(1, after), -2);
        }
        sentence = "18: picture p ends where it ends";
        QuadPictures x = only(1, 0).object();
        due("not the first of the next picture", x.next(0, 100), -2);
        x = only(0, 255).object();
        due("not the last of the one before", x.next(1, MIN), -2);
    }

    // What the tests are made of

    /** The call's answer, picture p as it must be now, and the other pictures as they were. */
    private static void changes(Scene scene, int p, boolean[] want, int answer, String method, int... arguments) {
        String text = scene.name + ": " + Scene.text(method, arguments);
        due(text, Scene.call(scene.object(), method, arguments), answer);
        boolean[][] seen = scene.after(method, arguments);
        for (int each = 0; each < 3; each++) {
            due("picture " + each + " after " + text, seen[each], each == p ? want : scene.picture(each));
        }
    }

    private static Scene only(int p, int n) {
        int[][] points = new int[3][0];
        points[p] = new int[] {n};
        return new Scene("point " + n + " in picture " + p, points);
    }

    private static boolean[] picture(int... numbers) {
        boolean[] set = new boolean[256];
        for (int n : numbers) {
            set[n] = true;
        }
        return set;
    }

    private static int count(boolean[] picture) {
        int count = 0;
        for (boolean set : picture) {
            count += set ? 1 : 0;
        }
        return count;
    }

    private static void checker(QuadPictures x, int p) {
        checkerOf(x, p, 1);
    }

    private static void due(String what, boolean[] got, boolean[] want) {
        boolean as = Arrays.equals(got, want);
        DUE.due(sentence + " | " + what + ": all points as due" + (as ? "" : differs(got, want)), as ? 1 : 0, 1);
    }

    private static String differs(boolean[] got, boolean[] want) {
        int n = Arrays.mismatch(got, want);
        return " (first not so: " + n + ")";
    }

    private static void due(String what, long got, long want) {
        DUE.due(sentence + " | " + what, got, want);
    }
}
