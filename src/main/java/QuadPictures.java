/** Pictures of 16 by 16 points, with operations on whole pictures and on rectangles. */
public final class QuadPictures {
    private static final int SIDE = 16;
    private static final int LAST = SIDE - 1;
    private static final int POINTS = SIDE * SIDE;
    private static final int LAST_POINT = POINTS - 1;
    private static final int PICTURES = 3;
    private static final int ALL_POINTS = PICTURES * POINTS;

    // Point (x, y) of picture p stands at POINTS * p + SIDE * x + y, so that a
    // point's place within its picture is the number the document gives it.
    private final boolean[] points = new boolean[ALL_POINTS];

    // A moved picture is drawn here first: its old points are still being read
    // while the new ones are found.
    private final boolean[] draft = new boolean[POINTS];

    // Used by regions alone, and filled anew each time.
    private final int[] labels = new int[POINTS];

    public QuadPictures() {
    }

    public int paint(int p, int low, int high, int mode) {
        if (!isPicture(p)) {
            return -1;
        }
        if (!isRectangle(low, high)) {
            return -2;
        }
        if (mode < 0 || mode > 2) {
            return -3;
        }
        for (int x = low / SIDE; x <= high / SIDE; x++) {
            for (int y = low % SIDE; y <= high % SIDE; y++) {
                int place = POINTS * p + SIDE * x + y;
                points[place] = mode == 2 ? !points[place] : mode == 1;
            }
        }
        return countIn(p, 0, LAST_POINT);
    }

    public int join(int kind, int p, int q) {
        if (kind < 0 || kind > 3) {
            return -1;
        }
        if (!isPicture(p) || !isPicture(q)) {
            return -2;
        }
        for (int i = 0; i < POINTS; i++) {
            boolean inP = points[POINTS * p + i];
            boolean inQ = points[POINTS * q + i];
            points[POINTS * p + i] = isJoined(kind, inP, inQ);
        }
        return countIn(p, 0, LAST_POINT);
    }

    public int copy(int p, int q) {
        if (!isPicture(p) || !isPicture(q)) {
            return -1;
        }
        for (int i = 0; i < POINTS; i++) {
            points[POINTS * p + i] = points[POINTS * q + i];
        }
        return 0;
    }

    public int turn(int kind, int p) {
        if (kind < 0 || kind > 2) {
            return -1;
        }
        if (!isPicture(p)) {
            return -2;
        }
        for (int x = 0; x < SIDE; x++) {
            for (int y = 0; y < SIDE; y++) {
                int newX = kind == 1 ? LAST - x : y;
                int newY = kind == 0 ? LAST - x : kind == 1 ? y : x;
                draft[SIDE * newX + newY] = isSet(p, x, y);
            }
        }
        takeDraft(p);
        return countTiles(p, 1, SIDE);
    }

    public int shift(int p, int dx, int dy) {
        if (!isPicture(p)) {
            return -1;
        }
        if (dx < -LAST || dx > LAST || dy < -LAST || dy > LAST) {
            return -2;
        }
        for (int x = 0; x < SIDE; x++) {
            for (int y = 0; y < SIDE; y++) {
                int oldX = x - dx;
                int oldY = y - dy;
                draft[SIDE * x + y] = isPoint(oldX, oldY) && isSet(p, oldX, oldY);
            }
        }
        takeDraft(p);
        return countIn(p, 0, LAST_POINT);
    }

    public int zoom(int p, int q, int quarter) {
        if (!isPicture(p) || !isPicture(q)) {
            return -1;
        }
        if (quarter < 0 || quarter > 3) {
            return -2;
        }
        int startX = SIDE / 2 * (quarter / 2);
        int startY = SIDE / 2 * (quarter % 2);
        for (int x = 0; x < SIDE; x++) {
            for (int y = 0; y < SIDE; y++) {
                draft[SIDE * x + y] = isSet(q, startX + x / 2, startY + y / 2);
            }
        }
        takeDraft(p);
        return countIn(p, 0, LAST_POINT);
    }

    public int at(int p, int x, int y) {
        if (!isPicture(p)) {
            return -1;
        }
        if (!isPoint(x, y)) {
            return -2;
        }
        return isSet(p, x, y) ? 1 : 0;
    }

    public int area(int p) {
        if (!isPicture(p)) {
            return -1;
        }
        return countIn(p, 0, LAST_POINT);
    }

    public int areaIn(int p, int low, int high) {
        if (!isPicture(p)) {
            return -1;
        }
        if (!isRectangle(low, high)) {
            return -2;
        }
        return countIn(p, low, high);
    }

    public int tiles(int p) {
        if (!isPicture(p)) {
            return -1;
        }
        return countTiles(p, 1, SIDE);
    }

    public int tilesOf(int p, int size) {
        if (!isPicture(p)) {
            return -1;
        }
        if (size != 1 && size != 2 && size != 4 && size != 8 && size != 16) {
            return -2;
        }
        return countTiles(p, size, size);
    }

    public int tileAt(int p, int x, int y) {
        if (!isPicture(p)) {
            return -1;
        }
        if (!isPoint(x, y)) {
            return -2;
        }
        return tileSize(p, x, y);
    }

    public int same(int p, int q) {
        if (!isPicture(p) || !isPicture(q)) {
            return -1;
        }
        for (int i = 0; i < POINTS; i++) {
            if (points[POINTS * p + i] != points[POINTS * q + i]) {
                return 0;
            }
        }
        return 1;
    }

    public int within(int p, int q) {
        if (!isPicture(p) || !isPicture(q)) {
            return -1;
        }
        for (int i = 0; i < POINTS; i++) {
            if (points[POINTS * p + i] && !points[POINTS * q + i]) {
                return 0;
            }
        }
        return 1;
    }

    public int border(int p) {
        if (!isPicture(p)) {
            return -1;
        }
        int count = 0;
        for (int x = 0; x < SIDE; x++) {
            for (int y = 0; y < SIDE; y++) {
                boolean here = isSet(p, x, y);
                if (x < LAST && isSet(p, x + 1, y) != here) {
                    count++;
                }
                if (y < LAST && isSet(p, x, y + 1) != here) {
                    count++;
                }
            }
        }
        return count;
    }

    public int regions(int p) {
        if (!isPicture(p)) {
            return -1;
        }
        for (int i = 0; i < POINTS; i++) {
            labels[i] = i;
        }
        // Every set point begins as a region of its own; each union of two
        // regions that touch leaves one fewer.
        int count = countIn(p, 0, LAST_POINT);
        for (int x = 0; x < SIDE; x++) {
            for (int y = 0; y < SIDE; y++) {
                int place = SIDE * x + y;
                boolean here = isSet(p, x, y);
                if (here && x < LAST && isSet(p, x + 1, y)) {
                    count -= unite(place, place + SIDE);
                }
                if (here && y < LAST && isSet(p, x, y + 1)) {
                    count -= unite(place, place + 1);
                }
            }
        }
        return count;
    }

    public int next(int p, int after) {
        if (!isPicture(p)) {
            return -1;
        }
        // Compared with after, not begun at after + 1, which could wrap around.
        for (int i = 0; i < POINTS; i++) {
            if (i > after && points[POINTS * p + i]) {
                return i;
            }
        }
        return -2;
    }

    private static boolean isPicture(int p) {
        return p >= 0 && p < PICTURES;
    }

    private static boolean isPoint(int x, int y) {
        return x >= 0 && x < SIDE && y >= 0 && y < SIDE;
    }

    private static boolean isRectangle(int low, int high) {
        if (low < 0 || low > LAST_POINT || high < 0 || high > LAST_POINT) {
            return false;
        }
        return low / SIDE <= high / SIDE && low % SIDE <= high % SIDE;
    }

    private static boolean isJoined(int kind, boolean inP, boolean inQ) {
        switch (kind) {
            case 0:
                return inP && inQ;
            case 1:
                return inP || inQ;
            case 2:
                return inP != inQ;
            default:
                return inP && !inQ;
        }
    }

    private boolean isSet(int p, int x, int y) {
        return points[POINTS * p + SIDE * x + y];
    }

    private void takeDraft(int p) {
        for (int i = 0; i < POINTS; i++) {
            points[POINTS * p + i] = draft[i];
        }
    }

    private int countIn(int p, int low, int high) {
        int count = 0;
        for (int x = low / SIDE; x <= high / SIDE; x++) {
            for (int y = low % SIDE; y <= high % SIDE; y++) {
                if (points[POINTS * p + SIDE * x + y]) {
                    count++;
                }
            }
        }
        return count;
    }

    // Each tile is counted once, at its least point.
    private int countTiles(int p, int leastSize, int greatestSize) {
        int count = 0;
        for (int x = 0; x < SIDE; x++) {
            for (int y = 0; y < SIDE; y++) {
                int size = tileSize(p, x, y);
                boolean wanted = size >= leastSize && size <= greatestSize;
                if (wanted && blockStart(x, size) == x && blockStart(y, size) == y) {
                    count++;
                }
            }
        }
        return count;
    }

    // The blocks that hold a point lie one inside the other, so the greatest
    // even one is the point's tile.
    private int tileSize(int p, int x, int y) {
        for (int level = 4; level > 0; level--) {
            int size = 1 << level;
            if (isEvenBlock(p, x, y, size)) {
                return size;
            }
        }
        return 1;
    }

    private boolean isEvenBlock(int p, int x, int y, int size) {
        int low = SIDE * blockStart(x, size) + blockStart(y, size);
        int high = low + (SIDE + 1) * (size - 1);
        int count = countIn(p, low, high);
        return count == 0 || count == size * size;
    }

    // Sizes are powers of two, so a mask does what a division would.
    private static int blockStart(int coordinate, int size) {
        return coordinate & -size;
    }

    // Answers how many regions fewer there are: 1, or 0 if the two points were
    // in one region before.
    private int unite(int place, int other) {
        int kept = labels[place];
        int gone = labels[other];
        if (kept == gone) {
            return 0;
        }
        for (int i = 0; i < POINTS; i++) {
            if (labels[i] == gone) {
                labels[i] = kept;
            }
        }
        return 1;
    }
}
