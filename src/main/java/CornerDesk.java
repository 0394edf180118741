/** Conditions on two numbers x and y, and the point that is best under them. */
public final class CornerDesk {
    private static final int COEFFICIENT_LIMIT = 9;
    private static final int BOUND_LIMIT = 99;
    private static final int BOX_BOUND = 50;
    private static final int BOX_LINES = 4;
    private static final int MAX_CONDITIONS = 10;
    private static final int MAX_LINES = BOX_LINES + MAX_CONDITIONS;
    private static final int MAX_LEVELS = 8;
    private static final int NO_LINE = -1;

    private static final int VALUE = 0;
    private static final int X = 1;
    private static final int Y = 2;
    private static final int PARTS = 3;

    // Lines 0 to 3 are the box that always holds, the row of conditions follows:
    // so every question about "all conditions" is one walk over these arrays.
    private final int[] lineA = new int[MAX_LINES];
    private final int[] lineB = new int[MAX_LINES];
    private final int[] lineC = new int[MAX_LINES];
    private int conditions = 0;

    private final int[] conditionsBeforeLevel = new int[MAX_LEVELS];
    private int levels = 1;

    // The corner at hand is (cornerX / cornerScale, cornerY / cornerScale). All numbers
    // stay small (|cornerX| <= 1782, cornerScale <= 162), so int products never overflow.
    private int cornerX = 0;
    private int cornerY = 0;
    private int cornerScale = 1;

    // The remembered value, x and y, as numerators over one scale, not yet reduced.
    private final int[] kept = new int[PARTS];
    private int keptScale = 1;
    private boolean remembered = false;

    public CornerDesk() {
        setLine(0, 1, 0, BOX_BOUND);
        setLine(1, -1, 0, BOX_BOUND);
        setLine(2, 0, 1, BOX_BOUND);
        setLine(3, 0, -1, BOX_BOUND);
    }

    public int add(int a, int b, int c) {
        if (!isCondition(a, b, c) || conditions >= MAX_CONDITIONS) {
            return -1;
        }
        setLine(BOX_LINES + conditions, a, b, c);
        conditions++;
        return conditions;
    }

    public int push() {
        if (levels >= MAX_LEVELS) {
            return -1;
        }
        conditionsBeforeLevel[levels] = conditions;
        levels++;
        return levels;
    }

    public int pop() {
        if (levels <= 1) {
            return -1;
        }
        levels--;
        conditions = conditionsBeforeLevel[levels];
        return conditions;
    }

    // The box keeps the region bounded, so a region that isn't empty has a corner,
    // and a corner lies where two lines cross.
    public int possible() {
        int lines = BOX_LINES + conditions;
        for (int first = 0; first < lines; first++) {
            for (int second = first + 1; second < lines; second++) {
                if (crossLines(first, second) && cornerMeetsAllBut(NO_LINE)) {
                    return 1;
                }
            }
        }
        return 0;
    }

    // The points with the greatest value are a corner, a side or (aim 0, 0) all of the
    // region; the one of them that the tie rule picks is always a corner.
    public int best(int p, int q) {
        if (!isWithin(p, COEFFICIENT_LIMIT) || !isWithin(q, COEFFICIENT_LIMIT)) {
            return -1;
        }
        remembered = false;
        int lines = BOX_LINES + conditions;
        for (int first = 0; first < lines; first++) {
            for (int second = first + 1; second < lines; second++) {
                if (crossLines(first, second) && cornerMeetsAllBut(NO_LINE)) {
                    offerCorner(p * cornerX + q * cornerY);
                }
            }
        }
        return remembered ? 1 : 0;
    }

    public int numerator(int which) {
        if (!isRemembered(which)) {
            return 0;
        }
        return kept[which] / commonDivisor(kept[which], keptScale);
    }

    public int denominator(int which) {
        if (!isRemembered(which)) {
            return 0;
        }
        return keptScale / commonDivisor(kept[which], keptScale);
    }

    public int test(int a, int b, int c) {
        if (!remembered || !isCondition(a, b, c)) {
            return -1;
        }
        int left = a * kept[X] + b * kept[Y];
        int right = c * keptScale;
        if (left == right) {
            return 1;
        }
        return left < right ? 2 : 0;
    }

    public int spare() {
        int found = 0;
        for (int line = BOX_LINES; line < BOX_LINES + conditions; line++) {
            if (isSpare(line)) {
                found++;
            }
        }
        return found;
    }

    private void setLine(int line, int a, int b, int c) {
        lineA[line] = a;
        lineB[line] = b;
        lineC[line] = c;
    }

    private static boolean isWithin(int number, int limit) {
        return number >= -limit && number <= limit;
    }

    private static boolean isCondition(int a, int b, int c) {
        return isWithin(a, COEFFICIENT_LIMIT)
            && isWithin(b, COEFFICIENT_LIMIT)
            && isWithin(c, BOUND_LIMIT)
            && (a != 0 || b != 0);
    }

    private boolean isRemembered(int which) {
        return remembered && which >= 0 && which < PARTS;
    }

    // Makes the crossing of two lines the corner at hand; false if they are parallel.
    private boolean crossLines(int first, int second) {
        int scale = lineA[first] * lineB[second] - lineA[second] * lineB[first];
        if (scale == 0) {
            return false;
        }
        // A scale above 0 lets inequalities be multiplied by it as they stand.
        int sign = scale > 0 ? 1 : -1;
        cornerX = sign * (lineC[first] * lineB[second] - lineC[second] * lineB[first]);
        cornerY = sign * (lineA[first] * lineC[second] - lineA[second] * lineC[first]);
        cornerScale = sign * scale;
        return true;
    }

    private boolean cornerMeets(int line) {
        return lineA[line] * cornerX + lineB[line] * cornerY <= lineC[line] * cornerScale;
    }

    private boolean cornerMeetsAllBut(int leftOut) {
        for (int line = 0; line < BOX_LINES + conditions; line++) {
            if (line != leftOut && !cornerMeets(line)) {
                return false;
            }
        }
        return true;
    }

    private void offerCorner(int value) {
        if (!remembered || cornerIsBetter(value)) {
            kept[VALUE] = value;
            kept[X] = cornerX;
            kept[Y] = cornerY;
            keptScale = cornerScale;
            remembered = true;
        }
    }

    private boolean cornerIsBetter(int value) {
        int valueGain = value * keptScale - kept[VALUE] * cornerScale;
        if (valueGain != 0) {
            return valueGain > 0;
        }
        int xGain = kept[X] * cornerScale - cornerX * keptScale;
        if (xGain != 0) {
            return xGain > 0;
        }
        return cornerY * keptScale < kept[Y] * cornerScale;
    }

    // Without the line the region is still bounded: leaving it out adds points only if
    // it adds a corner beyond the line. A crossing on the line itself is never beyond it.
    private boolean isSpare(int leftOut) {
        int lines = BOX_LINES + conditions;
        for (int first = 0; first < lines; first++) {
            for (int second = first + 1; second < lines; second++) {
                if (crossLines(first, second) && !cornerMeets(leftOut) && cornerMeetsAllBut(leftOut)) {
                    return false;
                }
            }
        }
        return true;
    }

    // Counts down instead of dividing on: scale is at most 162, and the answer is
    // plainly 1 or more, so that it may divide.
    private static int commonDivisor(int number, int scale) {
        for (int divisor = scale; divisor > 1; divisor--) {
            if (number % divisor == 0 && scale % divisor == 0) {
                return divisor;
            }
        }
        return 1;
    }
}
