import java.util.Arrays;

/**
 * Every test that the document makes of an argument: the first wrong values on each side, the least
 * and the greatest int, calls wrong in several ways, and that a refused call changes nothing.
 *
 * <p>In each method the arguments stand in the order of the tests, and the tests answer -1, -2 and
 * -3 in turn, so a method is told as a row of groups: what is good for each test, and what is not.
 */
public final class RefusalsTest {
    private static final int MIN = Integer.MIN_VALUE;
    private static final int MAX = Integer.MAX_VALUE;

    // 1 << 24 and 1 << 28 come out as 0 if they are multiplied by 256 or 16 before they are looked at.
    private static final int[][] PICTURE = {{1}, {-1}, {3}, {MIN}, {MAX}, {1 << 24}};
    private static final int[][] TWO_PICTURES = {
        {0, 1},
        {-1, 1}, {3, 1}, {MIN, 1}, {MAX, 1}, {1 << 24, 1},
        {1, -1}, {1, 3}, {1, MIN}, {1, MAX}, {1, 1 << 24},
        {-1, -1}, {3, 3}, {-1, 3}, {3, -1}, {MIN, MAX}
    };
    private static final int[][] POINT = {
        {6, 4},
        {-1, 0}, {-1, 15}, {16, 0}, {16, 15}, {MIN, 4}, {MAX, 4}, {1 << 28, 4},
        {0, -1}, {15, -1}, {0, 16}, {15, 16}, {6, MIN}, {6, MAX},
        {-1, -1}, {16, 16}, {-1, 16}, {16, -1}, {MIN, MIN}, {MAX, MAX}
    };
    private static final int[][] RECTANGLE = {
        {16, 16 * 7 + 9},
        // low or high outside 0 .. 255
        {-1, 255}, {-1, 15}, {-1, -1}, {-16, 255}, {256, 255}, {256, 256}, {MIN, 255}, {MAX, 255},
        {0, -1}, {0, 256}, {0, MIN}, {0, MAX}, {255, 256}, {255, 271}, {-1, 256}, {MIN, MAX},
        {MAX, MIN}, {MIN, MIN}, {MAX, MAX},
        // x1 > x2 alone
        {16, 0}, {16, 15}, {255, 239}, {240, 239},
        // y1 > y2 alone
        {1, 0}, {1, 240}, {15, 254}, {255, 254}, {15, 16}, {100, 115},
        // both
        {17, 0}, {255, 0}, {255, 238}
    };
    private static final int[][] UP_TO_2 = {{1}, {-1}, {3}, {MIN}, {MAX}, {257}};
    private static final int[][] UP_TO_3 = {{1}, {-1}, {4}, {MIN}, {MAX}, {257}};
    private static final int[][] DISTANCE = {
        {1, 1},
        {-16, 0}, {16, 0}, {-16, 15}, {16, -15}, {MIN, 0}, {MAX, 0},
        {0, -16}, {0, 16}, {15, -16}, {-15, 16}, {0, MIN}, {0, MAX},
        {-16, -16}, {16, 16}, {-16, 16}, {16, -16}, {MIN, MIN}, {MAX, MAX}
    };
    // MIN is a power of two of sorts, and a size of 0 can't divide.
    private static final int[][] SIZE = {
        {4}, {0}, {-1}, {3}, {5}, {6}, {7}, {9}, {10}, {11}, {12}, {13}, {14}, {15}, {17}, {32}, {64},
        {128}, {256}, {-2}, {-4}, {-8}, {-16}, {MIN}, {MAX}
    };
    private static final int[][] ANY = {{-1}, {0}, {255}, {256}, {MIN}, {MAX}};

    private static final Due DUE = new Due();

    public static void main(String[] args) {
        refusals("paint", PICTURE, RECTANGLE, UP_TO_2);
        refusals("join", UP_TO_3, TWO_PICTURES);
        refusals("copy", TWO_PICTURES);
        refusals("turn", UP_TO_2, PICTURE);
        refusals("shift", PICTURE, DISTANCE);
        refusals("zoom", TWO_PICTURES, UP_TO_3);
        refusals("at", PICTURE, POINT);
        refusals("area", new int[][][] {PICTURE});
        refusals("areaIn", PICTURE, RECTANGLE);
        refusals("tiles", new int[][][] {PICTURE});
        refusals("tilesOf", PICTURE, SIZE);
        refusals("tileAt", PICTURE, POINT);
        refusals("same", new int[][][] {TWO_PICTURES});
        refusals("within", new int[][][] {TWO_PICTURES});
        refusals("border", new int[][][] {PICTURE});
        refusals("regions", new int[][][] {PICTURE});
        nextRefused();
        everyModeIsKeptFromABadRectangle();
        everyKindIsKeptFromBadPictures();
        everyQuarterIsKeptFromBadPictures();
        DUE.end();
    }

    /** Every choice of one member from each group; the first of a group is good, the others are not. */
    private static void refusals(String method, int[][]... groups) {
        int choices = 1;
        for (int[][] group : groups) {
            choices *= group.length;
        }
        // Choice 0 is the one that is good throughout.
        for (int choice = 1; choice < choices; choice++) {
            int[] arguments = new int[0];
            int answer = 0;
            int rest = choice;
            for (int g = 0; g < groups.length; g++) {
                int member = rest % groups[g].length;
                rest /= groups[g].length;
                arguments = joined(arguments, groups[g][member]);
                if (member > 0 && answer == 0) {
                    answer = -1 - g;
                }
            }
            refused(answer, method, arguments);
        }
    }

    /** A bad picture comes before the search: what is after, and whether a point is there, is not asked. */
    private static void nextRefused() {
        for (int i = 1; i < PICTURE.length; i++) {
            for (int[] after : ANY) {
                refused(-1, "next", PICTURE[i][0], after[0]);
            }
        }
        for (int p = 0; p < 3; p++) {
            for (int after : new int[] {255, 256, MAX - 1, MAX}) {
                refused(-2, "next", p, after);
            }
        }
    }

    private static void everyModeIsKeptFromABadRectangle() {
        for (int mode = 0; mode < 3; mode++) {
            for (int i = 1; i < RECTANGLE.length; i++) {
                refused(-2, "paint", 2, RECTANGLE[i][0], RECTANGLE[i][1], mode);
            }
            refused(-1, "paint", -1, 0, 255, mode);
            refused(-1, "paint", 3, 0, 255, mode);
        }
    }

    private static void everyKindIsKeptFromBadPictures() {
        for (int i = 1; i < TWO_PICTURES.length; i++) {
            for (int kind = 0; kind < 4; kind++) {
                refused(-2, "join", kind, TWO_PICTURES[i][0], TWO_PICTURES[i][1]);
            }
        }
        for (int i = 1; i < PICTURE.length; i++) {
            for (int kind = 0; kind < 3; kind++) {
                refused(-2, "turn", kind, PICTURE[i][0]);
            }
        }
        for (int p = 0; p < 3; p++) {
            refused(-1, "turn", -1, p);
            refused(-1, "turn", 3, p);
            for (int q = 0; q < 3; q++) {
                refused(-1, "join", -1, p, q);
                refused(-1, "join", 4, p, q);
            }
        }
    }

    private static void everyQuarterIsKeptFromBadPictures() {
        for (int i = 1; i < TWO_PICTURES.length; i++) {
            for (int quarter = 0; quarter < 4; quarter++) {
                refused(-1, "zoom", TWO_PICTURES[i][0], TWO_PICTURES[i][1], quarter);
            }
        }
        for (int p = 0; p < 3; p++) {
            for (int q = 0; q < 3; q++) {
                refused(-2, "zoom", p, q, -1);
                refused(-2, "zoom", p, q, 4);
            }
        }
    }

    /** The answer, and every point of every picture, which must stand as before. */
    private static void refused(int answer, String method, int... arguments) {
        String text = Scene.text(method, arguments);
        for (Scene scene : Scene.EVERY) {
            QuadPictures x = scene.object();
            DUE.due(scene.name + ": " + text, Scene.call(x, method, arguments), answer);
            DUE.due(scene.name + ": " + text + " again", Scene.call(x, method, arguments), answer);
            boolean[][] seen = scene.after(method, arguments);
            for (int p = 0; p < 3; p++) {
                boolean left = Arrays.equals(seen[p], scene.picture(p));
                DUE.due(scene.name + ": picture " + p + " left alone by " + text, left ? 1 : 0, 1);
            }
        }
    }

    private static int[] joined(int[] a, int[] b) {
        int[] both = Arrays.copyOf(a, a.length + b.length);
        System.arraycopy(b, 0, both, a.length, b.length);
        return both;
    }
}
