/** Each promise of the document: ordinary inputs, the edges it names, and wrong inputs. */
public final class PromisesTest {
    private static final int MIN = Integer.MIN_VALUE;
    private static final int MAX = Integer.MAX_VALUE;
    private static final int[] BAD_PICTURES = {-1, 3, 4, 255, MIN, MAX};
    private static final int[][] BAD_RECTANGLES = {
        {-1, 0}, {-1, 255}, {0, -1}, {256, 255}, {0, 256}, {256, 256}, {-16, 0}, {-256, 255},
        {MIN, 255}, {0, MAX}, {MIN, MAX}, {MAX, MIN}, {MIN, MIN}, {MAX, MAX},
        // x1 > x2 alone, y1 > y2 alone, both
        {16, 0}, {16, 1}, {240, 239}, {1, 0}, {1, 16}, {15, 240}, {17, 32}, {17, 0}, {255, 0}
    };
    private static final int[][] BAD_POINTS = {
        {-1, 0}, {0, -1}, {16, 0}, {0, 16}, {-1, 16}, {16, -1}, {15, 16}, {16, 15}, {-1, 15},
        {MIN, 0}, {0, MIN}, {MAX, 0}, {0, MAX}, {MAX, MAX}
    };

    private static final Due DUE = new Due();
    private static String promise = "";

    public static void main(String[] args) {
        newObject();
        paint();
        paintRefused();
        join();
        joinRefused();
        copy();
        turn();
        turnRefused();
        shift();
        shiftRefused();
        zoom();
        zoomRefused();
        at();
        area();
        areaIn();
        tiles();
        tilesOf();
        tileAt();
        same();
        within();
        border();
        regions();
        next();
        questionsChangeNothing();
        lastPromisedCall();
        DUE.end();
    }

    private static void newObject() {
        promise = "1 new object";
        QuadPictures x = new QuadPictures();
        for (int p = 0; p < 3; p++) {
            due("area", x.area(p), 0);
            due("next", x.next(p, -1), -2);
            due("tiles", x.tiles(p), 1);
            due("tileAt", x.tileAt(p, 15, 15), 16);
            due("border", x.border(p), 0);
            due("regions", x.regions(p), 0);
            expect(x, p);
        }
        x.paint(0, 0, 255, 1);
        QuadPictures other = new QuadPictures();
        due("area of another object", other.area(0), 0);
    }

    private static void paint() {
        promise = "2 paint";
        QuadPictures x = new QuadPictures();
        due("one point", x.paint(0, 0, 0, 1), 1);
        due("the last point", x.paint(0, 255, 255, 1), 2);
        due("again", x.paint(0, 255, 255, 1), 2);
        expect(x, 0, 0, 255);
        due("2 by 3 points", x.paint(0, 16 * 4 + 5, 16 * 5 + 7, 1), 8);
        expect(x, 0, 0, 69, 70, 71, 85, 86, 87, 255);
        due("turned over, in part", x.paint(0, 16 * 5 + 6, 16 * 6 + 6, 2), 8);
        expect(x, 0, 0, 69, 70, 71, 85, 87, 102, 255);
        due("made not set", x.paint(0, 16 * 4 + 6, 16 * 6 + 7, 0), 4);
        expect(x, 0, 0, 69, 85, 255);
        due("not set stays not set", x.paint(0, 1, 15, 0), 4);
        due("a row", x.paint(1, 0, 15, 1), 16);
        due("a column", x.paint(1, 0, 240, 1), 31);
        due("x1 = x2, y1 < y2", x.paint(1, 16 * 15 + 14, 255, 1), 33);
        due("all turned over", x.paint(1, 0, 255, 2), 256 - 33);
        due("all off", x.paint(1, 0, 255, 0), 0);
        due("the others are left alone", x.area(0), 4);
        due("the others are left alone", x.area(2), 0);
        due("all on", x.paint(2, 0, 255, 1), 256);
    }

    private static void paintRefused() {
        promise = "2 paint refused";
        QuadPictures x = marked();
        for (int p : BAD_PICTURES) {
            due("picture " + p, x.paint(p, 0, 255, 1), -1);
            due("picture first " + p, x.paint(p, 256, 0, 3), -1);
        }
        for (int[] r : BAD_RECTANGLES) {
            due("rectangle " + r[0] + " " + r[1], x.paint(0, r[0], r[1], 2), -2);
            due("rectangle before mode " + r[0] + " " + r[1], x.paint(0, r[0], r[1], 3), -2);
        }
        for (int mode : new int[] {-1, 3, 4, MIN, MAX}) {
            due("mode " + mode, x.paint(0, 0, 255, mode), -3);
        }
        expectMarked(x);
    }

    private static void join() {
        promise = "3 join";
        int[][] results = {{2}, {1, 2, 200}, {1, 200}, {1}};
        for (int kind = 0; kind < 4; kind++) {
            QuadPictures x = new QuadPictures();
            set(x, 0, 1, 2);
            set(x, 2, 2, 200);
            due("kind " + kind, x.join(kind, 0, 2), results[kind].length);
            expect(x, 0, results[kind]);
            expect(x, 1);
            expect(x, 2, 2, 200);
        }
        int[] withItself = {2, 2, 0, 0};
        for (int kind = 0; kind < 4; kind++) {
            QuadPictures x = new QuadPictures();
            set(x, 1, 0, 255);
            due("with itself, kind " + kind, x.join(kind, 1, 1), withItself[kind]);
            due("with itself, area", x.area(1), withItself[kind]);
        }
        QuadPictures x = new QuadPictures();
        set(x, 1, 7);
        due("empty or not", x.join(1, 0, 1), 1);
        due("the empty less another", x.join(3, 2, 1), 0);
        due("all less one", x.paint(2, 0, 255, 1) + x.join(3, 2, 1), 256 + 255);
        due("the one lost", x.at(2, 0, 7), 0);
    }

    private static void joinRefused() {
        promise = "3 join refused";
        QuadPictures x = marked();
        for (int kind : new int[] {-1, 4, 5, MIN, MAX}) {
            due("kind " + kind, x.join(kind, 0, 1), -1);
            due("kind first " + kind, x.join(kind, 3, -1), -1);
        }
        for (int bad : BAD_PICTURES) {
            for (int kind = 0; kind < 4; kind++) {
                due("p " + bad, x.join(kind, bad, 0), -2);
                due("q " + bad, x.join(kind, 0, bad), -2);
                due("both " + bad, x.join(kind, bad, bad), -2);
            }
        }
        expectMarked(x);
    }

    private static void copy() {
        promise = "4 copy";
        QuadPictures x = marked();
        due("onto another", x.copy(0, 1), 0);
        expect(x, 0, 18, 255);
        expect(x, 1, 18, 255);
        expect(x, 2, 0, 15, 240);
        due("onto itself", x.copy(2, 2), 0);
        expect(x, 2, 0, 15, 240);
        x.paint(1, 18, 18, 0);
        expect(x, 0, 18, 255);
        expect(x, 1, 255);
        due("with the corners", x.copy(1, 2), 0);
        expect(x, 1, 0, 15, 240);
        QuadPictures y = marked();
        for (int bad : BAD_PICTURES) {
            due("p " + bad, y.copy(bad, 0), -1);
            due("q " + bad, y.copy(0, bad), -1);
            due("both " + bad, y.copy(bad, bad), -1);
        }
        expectMarked(y);
    }

    private static void turn() {
        promise = "5 turn";
        // (1, 2), (0, 0) and (15, 4)
        int[][] results = {{16 * 2 + 14, 15, 16 * 4}, {16 * 14 + 2, 240, 4}, {16 * 2 + 1, 0, 16 * 4 + 15}};
        for (int kind = 0; kind < 3; kind++) {
            QuadPictures x = new QuadPictures();
            set(x, 1, 18, 0, 244);
            set(x, 0, 3);
            due("kind " + kind, x.turn(kind, 1), x.tiles(1));
            expect(x, 1, results[kind]);
            expect(x, 0, 3);
            expect(x, 2);
        }
        QuadPictures x = new QuadPictures();
        due("an empty picture has one tile", x.turn(0, 0), 1);
        x.paint(0, 0, 255, 1);
        due("a full picture has one tile", x.turn(1, 0), 1);
        x.paint(0, 0, 0, 0);
        due("one point less", x.turn(2, 0), 13);
        due("it stays on the diagonal", x.at(0, 0, 0), 0);
        x.paint(1, 0, 119, 1);
        due("a quarter set", x.turn(0, 1), 4);
        due("it is elsewhere", x.next(1, -1), 8);
    }

    private static void turnRefused() {
        promise = "5 turn refused";
        QuadPictures x = marked();
        for (int kind : new int[] {-1, 3, 4, MIN, MAX}) {
            due("kind " + kind, x.turn(kind, 0), -1);
            due("kind first " + kind, x.turn(kind, 3), -1);
        }
        for (int p : BAD_PICTURES) {
            for (int kind = 0; kind < 3; kind++) {
                due("picture " + p, x.turn(kind, p), -2);
            }
        }
        expectMarked(x);
    }

    private static void shift() {
        promise = "6 shift";
        QuadPictures x = new QuadPictures();
        set(x, 0, 0, 15, 240, 255, 16 * 5 + 9);
        set(x, 1, 77);
        due("by nothing", x.shift(0, 0, 0), 5);
        expect(x, 0, 0, 15, 89, 240, 255);
        due("by (2, -3)", x.shift(0, 2, -3), 2);
        expect(x, 0, 16 * 2 + 12, 16 * 7 + 6);
        due("by (-2, 3)", x.shift(0, -2, 3), 2);
        expect(x, 0, 15, 89);
        expect(x, 1, 77);
        due("lost in y, not carried to the next x", x.shift(0, 0, 1), 1);
        expect(x, 0, 90);
        due("lost", x.shift(0, 0, 15), 0);
        int[][] far = {{15, 15, 255}, {15, -15, 240}, {-15, 15, 15}, {-15, -15, 0}};
        for (int[] f : far) {
            QuadPictures y = new QuadPictures();
            y.paint(2, 0, 255, 1);
            due("by " + f[0] + " " + f[1], y.shift(2, f[0], f[1]), 1);
            expect(y, 2, f[2]);
            due("and lost", y.shift(2, f[0], f[1]), 0);
        }
        QuadPictures z = new QuadPictures();
        z.paint(0, 0, 255, 1);
        due("a full one by (1, 0)", z.shift(0, 1, 0), 240);
        due("the points it came from", z.areaIn(0, 0, 15), 0);
    }

    private static void shiftRefused() {
        promise = "6 shift refused";
        QuadPictures x = marked();
        for (int p : BAD_PICTURES) {
            due("picture " + p, x.shift(p, 1, 1), -1);
            due("picture first " + p, x.shift(p, 16, 16), -1);
        }
        for (int d : new int[] {-16, 16, -17, 17, 256, -256, MIN, MAX}) {
            due("dx " + d, x.shift(0, d, 0), -2);
            due("dy " + d, x.shift(0, 0, d), -2);
            due("both " + d, x.shift(0, d, d), -2);
        }
        expectMarked(x);
    }

    private static void zoom() {
        promise = "7 zoom";
        // One point of each quarter, elsewhere in each.
        int[] sources = {16 * 0 + 0, 16 * 1 + 10, 16 * 15 + 7, 16 * 8 + 15};
        int[] corners = {0, 16 * 2 + 4, 16 * 14 + 14, 16 * 0 + 14};
        for (int quarter = 0; quarter < 4; quarter++) {
            int c = corners[quarter];
            QuadPictures x = new QuadPictures();
            set(x, 1, sources);
            set(x, 0, 100);
            due("quarter " + quarter, x.zoom(0, 1, quarter), 4);
            expect(x, 0, c, c + 1, c + 16, c + 17);
            expect(x, 1, sources);
            due("onto itself, quarter " + quarter, x.zoom(1, 1, quarter), 4);
            expect(x, 1, c, c + 1, c + 16, c + 17);
            expect(x, 2);
        }
        QuadPictures x = new QuadPictures();
        x.paint(0, 0, 119, 1);
        due("a full quarter", x.zoom(2, 0, 0), 256);
        due("an empty quarter", x.zoom(2, 0, 1), 0);
        x.paint(0, 16 * 7 + 7, 16 * 8 + 8, 1);
        due("onto itself", x.zoom(0, 0, 3), 4);
        due("onto itself again", x.zoom(0, 0, 0), 16);
        due("a third time", x.zoom(0, 0, 0), 64);
    }

    private static void zoomRefused() {
        promise = "7 zoom refused";
        QuadPictures x = marked();
        for (int bad : BAD_PICTURES) {
            due("p " + bad, x.zoom(bad, 0, 0), -1);
            due("q " + bad, x.zoom(0, bad, 0), -1);
            due("pictures first " + bad, x.zoom(bad, 0, 4), -1);
            due("pictures first " + bad, x.zoom(0, bad, -1), -1);
        }
        for (int quarter : new int[] {-1, 4, 5, MIN, MAX}) {
            due("quarter " + quarter, x.zoom(0, 1, quarter), -2);
        }
        expectMarked(x);
    }

    private static void at() {
        promise = "8 at";
        QuadPictures x = marked();
        due("set", x.at(0, 1, 3), 1);
        due("x and y exchanged", x.at(0, 3, 1), 0);
        due("another picture", x.at(1, 1, 3), 0);
        due("the last point", x.at(1, 15, 15), 1);
        due("the first point", x.at(2, 0, 0), 1);
        due("a corner", x.at(2, 0, 15), 1);
        due("a corner", x.at(2, 15, 0), 1);
        for (int p : BAD_PICTURES) {
            due("picture " + p, x.at(p, 0, 0), -1);
            due("picture first " + p, x.at(p, 16, -1), -1);
        }
        for (int[] point : BAD_POINTS) {
            due("point " + point[0] + " " + point[1], x.at(2, point[0], point[1]), -2);
        }
    }

    private static void area() {
        promise = "9 area";
        QuadPictures x = marked();
        due("0", x.area(0), 1);
        due("1", x.area(1), 2);
        due("2", x.area(2), 3);
        x.paint(2, 0, 255, 1);
        due("full", x.area(2), 256);
        for (int p : BAD_PICTURES) {
            due("picture " + p, x.area(p), -1);
        }
    }

    private static void areaIn() {
        promise = "10 areaIn";
        QuadPictures x = new QuadPictures();
        x.paint(1, 16 * 3 + 4, 16 * 6 + 9, 1);
        due("all", x.areaIn(1, 0, 255), 24);
        due("just it", x.areaIn(1, 52, 105), 24);
        due("inside", x.areaIn(1, 16 * 4 + 5, 16 * 5 + 7), 6);
        due("across an edge", x.areaIn(1, 16 * 6 + 8, 255), 2);
        due("one point, set", x.areaIn(1, 52, 52), 1);
        due("one point, not set", x.areaIn(1, 51, 51), 0);
        due("beside it in y", x.areaIn(1, 0, 16 * 15 + 3), 0);
        due("beside it in x", x.areaIn(1, 16 * 7, 255), 0);
        due("a column", x.areaIn(1, 4, 16 * 15 + 4), 4);
        due("a row", x.areaIn(1, 48, 63), 6);
        due("another picture", x.areaIn(0, 0, 255), 0);
        for (int p : BAD_PICTURES) {
            due("picture " + p, x.areaIn(p, 0, 255), -1);
            due("picture first " + p, x.areaIn(p, 1, 0), -1);
        }
        for (int[] r : BAD_RECTANGLES) {
            due("rectangle " + r[0] + " " + r[1], x.areaIn(1, r[0], r[1]), -2);
        }
    }

    private static void tiles() {
        promise = "11 tiles";
        QuadPictures x = new QuadPictures();
        due("empty", x.tiles(0), 1);
        x.paint(0, 0, 255, 1);
        due("full", x.tiles(0), 1);
        x.paint(0, 0, 0, 0);
        due("all but one", x.tiles(0), 13);
        x.paint(1, 0, 127, 1);
        due("a half", x.tiles(1), 4);
        checker(x, 2);
        due("no two neighbours alike", x.tiles(2), 256);
        x.paint(1, 0, 255, 0);
        x.paint(1, 17, 34, 1);
        due("a square of 2 that is not a block", x.tiles(1), 3 + 3 + 16);
        for (int p : BAD_PICTURES) {
            due("picture " + p, x.tiles(p), -1);
        }
    }

    private static void tilesOf() {
        promise = "12 tilesOf";
        QuadPictures x = new QuadPictures();
        set(x, 0, 255);
        int[] onePoint = {4, 3, 3, 3, 0};
        int[] empty = {0, 0, 0, 0, 1};
        int[] checker = {256, 0, 0, 0, 0};
        int[] quarter = {0, 0, 0, 4, 0};
        due("empty", x.tiles(1), 1);
        tilesBySize(x, 0, onePoint);
        tilesBySize(x, 1, empty);
        x.paint(1, 0, 255, 1);
        tilesBySize(x, 1, empty);
        checker(x, 2);
        tilesBySize(x, 2, checker);
        x.paint(2, 0, 255, 0);
        x.paint(2, 16 * 8, 16 * 15 + 7, 1);
        tilesBySize(x, 2, quarter);
        for (int p : BAD_PICTURES) {
            due("picture " + p, x.tilesOf(p, 1), -1);
            due("picture first " + p, x.tilesOf(p, 3), -1);
        }
        for (int size : new int[] {0, -1, 3, 5, 6, 7, 9, 10, 12, 15, 17, 32, 64, 256, -2, -16, MIN, MAX}) {
            due("size " + size, x.tilesOf(0, size), -2);
        }
    }

    private static void tilesBySize(QuadPictures x, int p, int[] counts) {
        for (int k = 0; k < 5; k++) {
            due("picture " + p + ", size " + (1 << k), x.tilesOf(p, 1 << k), counts[k]);
        }
    }

    private static void tileAt() {
        promise = "13 tileAt";
        QuadPictures x = new QuadPictures();
        due("empty", x.tileAt(0, 7, 8), 16);
        set(x, 0, 16 * 5 + 9);
        due("the point", x.tileAt(0, 5, 9), 1);
        due("in its block of 2", x.tileAt(0, 4, 8), 1);
        due("in its block of 4", x.tileAt(0, 6, 8), 2);
        due("in its block of 4", x.tileAt(0, 7, 11), 2);
        due("in its block of 8", x.tileAt(0, 3, 8), 4);
        due("in its block of 8", x.tileAt(0, 7, 15), 4);
        due("elsewhere", x.tileAt(0, 5, 7), 8);
        due("elsewhere", x.tileAt(0, 8, 9), 8);
        due("elsewhere", x.tileAt(0, 9, 5), 8);
        x.paint(0, 64, 16 * 7 + 3, 1);
        due("a set block of 4", x.tileAt(0, 5, 1), 4);
        for (int p : BAD_PICTURES) {
            due("picture " + p, x.tileAt(p, 0, 0), -1);
            due("picture first " + p, x.tileAt(p, -1, 16), -1);
        }
        for (int[] point : BAD_POINTS) {
            due("point " + point[0] + " " + point[1], x.tileAt(0, point[0], point[1]), -2);
        }
    }

    private static void same() {
        promise = "14 same";
        QuadPictures x = new QuadPictures();
        due("both empty", x.same(0, 2), 1);
        due("with itself", x.same(1, 1), 1);
        set(x, 0, 255);
        due("one more", x.same(0, 2), 0);
        due("one less", x.same(2, 0), 0);
        set(x, 2, 0);
        due("as many, elsewhere", x.same(0, 2), 0);
        set(x, 2, 255);
        set(x, 0, 0);
        due("the same points", x.same(0, 2), 1);
        x.paint(0, 0, 0, 0);
        due("without the first point", x.same(0, 2), 0);
        badPairs(x, "same");
    }

    private static void within() {
        promise = "15 within";
        QuadPictures x = new QuadPictures();
        due("both empty", x.within(0, 1), 1);
        set(x, 1, 0, 255);
        due("the empty in another", x.within(0, 1), 1);
        due("another in the empty", x.within(1, 0), 0);
        due("in itself", x.within(1, 1), 1);
        set(x, 0, 255);
        due("a part", x.within(0, 1), 1);
        due("a part, turned about", x.within(1, 0), 0);
        set(x, 0, 0);
        due("the same", x.within(0, 1), 1);
        set(x, 0, 100);
        set(x, 1, 101);
        due("neither", x.within(0, 1), 0);
        due("neither", x.within(1, 0), 0);
        badPairs(x, "within");
    }

    private static void badPairs(QuadPictures x, String method) {
        boolean same = method.equals("same");
        for (int bad : BAD_PICTURES) {
            due("p " + bad, same ? x.same(bad, 0) : x.within(bad, 0), -1);
            due("q " + bad, same ? x.same(0, bad) : x.within(0, bad), -1);
            due("both " + bad, same ? x.same(bad, bad) : x.within(bad, bad), -1);
        }
    }

    private static void border() {
        promise = "16 border";
        QuadPictures x = new QuadPictures();
        due("empty", x.border(0), 0);
        x.paint(0, 0, 255, 1);
        due("full: the picture's own edge is none", x.border(0), 0);
        set(x, 1, 0);
        due("a corner", x.border(1), 2);
        set(x, 1, 255);
        due("two corners", x.border(1), 4);
        set(x, 1, 16 * 7 + 7);
        due("an inner point", x.border(1), 8);
        set(x, 1, 16 * 7 + 8);
        due("two inner neighbours", x.border(1), 10);
        set(x, 1, 16 * 7);
        due("a point of the edge", x.border(1), 13);
        set(x, 1, 15);
        due("a third corner", x.border(1), 15);
        checker(x, 2);
        due("no two neighbours alike", x.border(2), 480);
        x.paint(2, 0, 255, 0);
        set(x, 2, 15, 16);
        due("15 and 16 are not neighbours", x.border(2), 2 + 3);
        for (int p : BAD_PICTURES) {
            due("picture " + p, x.border(p), -1);
        }
    }

    private static void regions() {
        promise = "17 regions";
        QuadPictures x = new QuadPictures();
        due("empty", x.regions(0), 0);
        set(x, 0, 17);
        due("one point", x.regions(0), 1);
        set(x, 0, 34);
        due("touching at a corner only", x.regions(0), 2);
        set(x, 0, 18);
        due("joined", x.regions(0), 1);
        set(x, 1, 15, 16);
        due("15 and 16 are not neighbours", x.regions(1), 2);
        x.paint(1, 0, 255, 1);
        due("full", x.regions(1), 1);
        checker(x, 2);
        due("no two neighbours set", x.regions(2), 128);
        comb(x, 2);
        due("a comb joined at its far end", x.regions(2), 1);
        x.paint(2, 255, 255, 0);
        due("its last tooth's foot gone", x.regions(2), 1);
        x.paint(2, 16 * 7 + 15, 16 * 7 + 15, 0);
        due("cut in the middle", x.regions(2), 2);
        snake(x, 0);
        due("the longest row", x.regions(0), 1);
        x.paint(0, 16 * 8 + 5, 16 * 8 + 5, 0);
        due("the longest row cut", x.regions(0), 2);
        x.paint(1, 0, 255, 0);
        x.paint(1, 17, 16 * 9 + 9, 1);
        x.paint(1, 34, 16 * 8 + 8, 0);
        x.paint(1, 16 * 4 + 4, 16 * 5 + 5, 1);
        due("an island in a ring", x.regions(1), 2);
        due("asked again", x.regions(1), 2);
        x.paint(1, 0, 255, 0);
        for (int edge : new int[] {0, 15, 240, 255}) {
            int beside = edge % 16 == 0 ? edge + 1 : edge - 1;
            set(x, 1, edge, beside);
        }
        due("pairs along the edges of y", x.regions(1), 4);
        x.paint(1, 0, 255, 0);
        for (int edge : new int[] {0, 15, 240, 255}) {
            int beside = edge / 16 == 0 ? edge + 16 : edge - 16;
            set(x, 1, edge, beside);
        }
        due("pairs along the edges of x", x.regions(1), 4);
        for (int p : BAD_PICTURES) {
            due("picture " + p, x.regions(p), -1);
        }
    }

    private static void next() {
        promise = "18 next";
        QuadPictures x = new QuadPictures();
        due("none", x.next(0, -1), -2);
        set(x, 0, 0, 15, 16, 200, 255);
        due("the first", x.next(0, -1), 0);
        due("greater than, not from", x.next(0, 0), 15);
        due("y, then x", x.next(0, 15), 16);
        due("over a gap", x.next(0, 16), 200);
        due("within a gap", x.next(0, 199), 200);
        due("the last", x.next(0, 200), 255);
        due("before the last", x.next(0, 254), 255);
        due("after the last", x.next(0, 255), -2);
        due("far before", x.next(0, -1000), 0);
        due("least int", x.next(0, MIN), 0);
        due("greatest int", x.next(0, MAX), -2);
        due("greatest int but one", x.next(0, MAX - 1), -2);
        due("beyond the points", x.next(0, 256), -2);
        due("another picture", x.next(1, MIN), -2);
        set(x, 1, 16 * 2 + 3);
        due("16 * x + y", x.next(1, 5), 35);
        for (int p : BAD_PICTURES) {
            due("picture " + p, x.next(p, -1), -1);
        }
    }

    private static void questionsChangeNothing() {
        promise = "questions change nothing";
        QuadPictures x = marked();
        for (int p = 0; p < 3; p++) {
            x.at(p, 0, 0);
            x.area(p);
            x.areaIn(p, 0, 255);
            x.tiles(p);
            x.tilesOf(p, 1);
            x.tileAt(p, 0, 0);
            x.same(p, 0);
            x.within(p, 0);
            x.border(p);
            x.regions(p);
            x.next(p, 0);
        }
        expectMarked(x);
    }

    private static void lastPromisedCall() {
        promise = "the 512th call";
        QuadPictures x = new QuadPictures();
        for (int call = 1; call < 512; call++) {
            due("call " + call, x.paint(0, 0, 255, 2), call % 2 == 1 ? 256 : 0);
        }
        due("call 512", x.regions(0), 1);
    }

    private static void checker(QuadPictures x, int p) {
        x.paint(p, 0, 255, 0);
        for (int i = 0; i < 16; i += 2) {
            x.paint(p, 16 * i, 16 * i + 15, 2);
            x.paint(p, i, 16 * 15 + i, 2);
        }
    }

    /** Every second x a tooth, all of them joined at y = 15 alone. */
    private static void comb(QuadPictures x, int p) {
        x.paint(p, 15, 255, 1);
        x.paint(p, 0, 16 * 15 + 14, 0);
        for (int i = 0; i < 16; i += 2) {
            x.paint(p, 16 * i, 16 * i + 15, 1);
        }
    }

    /** Every second x a line, each joined to the next at one end in turn. */
    private static void snake(QuadPictures x, int p) {
        x.paint(p, 0, 255, 0);
        for (int i = 0; i < 16; i += 2) {
            x.paint(p, 16 * i, 16 * i + 15, 1);
            int link = 16 * (i + 1) + (i % 4 == 0 ? 15 : 0);
            x.paint(p, link, link, 1);
        }
    }

    /** Three pictures that differ, and that no method leaves as they are. */
    private static QuadPictures marked() {
        QuadPictures x = new QuadPictures();
        set(x, 0, 19);
        set(x, 1, 18, 255);
        set(x, 2, 0, 15, 240);
        return x;
    }

    private static void expectMarked(QuadPictures x) {
        expect(x, 0, 19);
        expect(x, 1, 18, 255);
        expect(x, 2, 0, 15, 240);
    }

    private static void set(QuadPictures x, int p, int... numbers) {
        for (int n : numbers) {
            x.paint(p, n, n, 1);
        }
    }

    /** The picture has just these points; next tells them all in few calls. */
    private static void expect(QuadPictures x, int p, int... numbers) {
        int[] sorted = numbers.clone();
        java.util.Arrays.sort(sorted);
        int after = -1;
        for (int n : sorted) {
            due("points of picture " + p + " after " + after, x.next(p, after), n);
            due("at " + n + " of picture " + p, x.at(p, n / 16, n % 16), 1);
            after = n;
        }
        due("points of picture " + p + " after " + after, x.next(p, after), -2);
    }

    private static void due(String what, long got, long want) {
        DUE.due(promise + ": " + what, got, want);
    }
}
