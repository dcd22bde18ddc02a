/** Two nested loops that read and write the places of a table, and which turns must come before which. */
public final class LoopClashes {
    private static final int MOST_LOOP_TURNS = 8;
    private static final int MOST_TURNS = 64;
    private static final int MOST_REFERENCES = 6;

    // A code packs three numbers, each moved up so that its least value is 0.
    private static final int OUTER_WEIGHT = 2048;
    private static final int INNER_WEIGHT = 128;
    private static final int INNER_FIELD = 16;
    private static final int FACTOR_LIFT = 4;
    private static final int FACTOR_TOP = 8;
    private static final int OFFSET_LIFT = 20;
    private static final int OFFSET_TOP = 40;

    private static final int ROW_SCALE = 1000;
    private static final int NOT_GOOD = -1;
    private static final int NO_CLASH = -2;
    private static final int NO_SUCH_REFERENCE_PLACE = -100000000;
    private static final int NO_SUCH_TURN_PLACE = -200000000;

    // Sets of directions, as sums of 2^direction with direction 3 * outer side + inner side.
    private static final int SAME_OUTER = 1 | 1 << 1 | 1 << 2;
    private static final int SAME_OUTER_OTHER_INNER = 1 << 1 | 1 << 2;
    private static final int OUTER_LESS_INNER_GREATER = 1 << 5;

    private final int[] rows = new int[MOST_REFERENCES];
    private final int[] columns = new int[MOST_REFERENCES];
    private final boolean[] writing = new boolean[MOST_REFERENCES];
    private final int[] steps = new int[MOST_TURNS];
    private final int innerTurns;
    private final int turns;
    private int count;

    public LoopClashes(int outer, int inner) {
        innerTurns = loopTurns(inner);
        turns = loopTurns(outer) * innerTurns;
        count = 0;
    }

    public int refer(int row, int column, int writes) {
        if (!isCode(row)) {
            return -1;
        }
        if (!isCode(column)) {
            return -2;
        }
        if (count >= MOST_REFERENCES) {
            return -3;
        }
        rows[count] = row;
        columns[count] = column;
        writing[count] = writes != 0;
        count++;
        return count - 1;
    }

    public int drop(int r) {
        if (!isGood(r)) {
            return NOT_GOOD;
        }
        for (int k = r; k < count - 1; k++) {
            rows[k] = rows[k + 1];
            columns[k] = columns[k + 1];
            writing[k] = writing[k + 1];
        }
        count--;
        return count;
    }

    public int mode(int r, int flag) {
        if (!isGood(r)) {
            return NOT_GOOD;
        }
        int before = writing[r] ? 1 : 0;
        writing[r] = flag != 0;
        return before;
    }

    public int references() {
        return count;
    }

    public int place(int r, int turn) {
        if (!isGood(r)) {
            return NO_SUCH_REFERENCE_PLACE;
        }
        if (turn < 0 || turn >= turns) {
            return NO_SUCH_TURN_PLACE;
        }
        return touched(r, turn);
    }

    public int clashes(int r, int s) {
        if (!isGood(r) || !isGood(s)) {
            return NOT_GOOD;
        }
        int found = 0;
        for (int t = 0; t < turns; t++) {
            for (int u = t; u < turns; u++) {
                if (isClash(r, s, t, u)) {
                    found++;
                }
            }
        }
        return found;
    }

    public int directions(int r, int s) {
        if (!isGood(r) || !isGood(s)) {
            return NOT_GOOD;
        }
        return directionSet(r, s);
    }

    public int nearest(int r, int s) {
        if (!isGood(r) || !isGood(s)) {
            return NOT_GOOD;
        }
        for (int span = 0; span < turns; span++) {
            if (hasSpan(r, s, span)) {
                return span;
            }
        }
        return NO_CLASH;
    }

    public int farthest(int r, int s) {
        if (!isGood(r) || !isGood(s)) {
            return NOT_GOOD;
        }
        for (int span = turns - 1; span >= 0; span--) {
            if (hasSpan(r, s, span)) {
                return span;
            }
        }
        return NO_CLASH;
    }

    public int first(int r, int s) {
        if (!isGood(r) || !isGood(s)) {
            return NOT_GOOD;
        }
        for (int t = 0; t < turns; t++) {
            for (int u = t; u < turns; u++) {
                if (isClash(r, s, t, u)) {
                    return t;
                }
            }
        }
        return NO_CLASH;
    }

    public int uniform(int r, int s) {
        if (!isGood(r) || !isGood(s)) {
            return NOT_GOOD;
        }
        boolean any = false;
        int outerGap = 0;
        int innerGap = 0;
        for (int t = 0; t < turns; t++) {
            for (int u = t; u < turns; u++) {
                if (!isClash(r, s, t, u)) {
                    continue;
                }
                int outerHere = u / innerTurns - t / innerTurns;
                int innerHere = u % innerTurns - t % innerTurns;
                if (any && (outerHere != outerGap || innerHere != innerGap)) {
                    return 0;
                }
                any = true;
                outerGap = outerHere;
                innerGap = innerHere;
            }
        }
        return 1;
    }

    public int outerFree() {
        return (allDirections() & ~SAME_OUTER) == 0 ? 1 : 0;
    }

    public int innerFree() {
        return (allDirections() & SAME_OUTER_OTHER_INNER) == 0 ? 1 : 0;
    }

    public int exchangeable() {
        return (allDirections() & OUTER_LESS_INNER_GREATER) == 0 ? 1 : 0;
    }

    public int footprint(int r) {
        if (!isGood(r)) {
            return NOT_GOOD;
        }
        int different = 0;
        for (int t = 0; t < turns; t++) {
            if (isNewPlace(r, t)) {
                different++;
            }
        }
        return different;
    }

    public int depth() {
        int deepest = 0;
        for (int u = 0; u < turns; u++) {
            int latest = 0;
            for (int t = 0; t < u; t++) {
                if (steps[t] > latest && mustPrecede(t, u)) {
                    latest = steps[t];
                }
            }
            steps[u] = latest + 1;
            if (steps[u] > deepest) {
                deepest = steps[u];
            }
        }
        return deepest;
    }

    private static int loopTurns(int asked) {
        if (asked < 1) {
            return 1;
        }
        return asked > MOST_LOOP_TURNS ? MOST_LOOP_TURNS : asked;
    }

    private static boolean isCode(int code) {
        return code >= 0
            && code / OUTER_WEIGHT <= FACTOR_TOP
            && code / INNER_WEIGHT % INNER_FIELD <= FACTOR_TOP
            && code % INNER_WEIGHT <= OFFSET_TOP;
    }

    private static int coordinate(int code, int i, int j) {
        int outerFactor = code / OUTER_WEIGHT - FACTOR_LIFT;
        int innerFactor = code / INNER_WEIGHT % INNER_FIELD - FACTOR_LIFT;
        int offset = code % INNER_WEIGHT - OFFSET_LIFT;
        return outerFactor * i + innerFactor * j + offset;
    }

    private static int side(int inT, int inU) {
        if (inT == inU) {
            return 0;
        }
        return inT < inU ? 1 : 2;
    }

    private boolean isGood(int r) {
        return r >= 0 && r < count;
    }

    // Columns stay within -76 .. 76, so one number with the row scaled by 1000 tells places apart.
    private int touched(int r, int turn) {
        int i = turn / innerTurns;
        int j = turn % innerTurns;
        return ROW_SCALE * coordinate(rows[r], i, j) + coordinate(columns[r], i, j);
    }

    private boolean isClash(int r, int s, int t, int u) {
        if (!writing[r] && !writing[s]) {
            return false;
        }
        if (t > u || t == u && r >= s) {
            return false;
        }
        return touched(r, t) == touched(s, u);
    }

    private int direction(int t, int u) {
        int outerSide = side(t / innerTurns, u / innerTurns);
        int innerSide = side(t % innerTurns, u % innerTurns);
        return 3 * outerSide + innerSide;
    }

    private int directionSet(int r, int s) {
        int set = 0;
        for (int t = 0; t < turns; t++) {
            for (int u = t; u < turns; u++) {
                if (isClash(r, s, t, u)) {
                    set |= 1 << direction(t, u);
                }
            }
        }
        return set;
    }

    private int allDirections() {
        int set = 0;
        for (int r = 0; r < count; r++) {
            for (int s = 0; s < count; s++) {
                set |= directionSet(r, s);
            }
        }
        return set;
    }

    private boolean hasSpan(int r, int s, int span) {
        for (int t = 0; t < turns - span; t++) {
            if (isClash(r, s, t, t + span)) {
                return true;
            }
        }
        return false;
    }

    private boolean isNewPlace(int r, int turn) {
        int here = touched(r, turn);
        for (int t = 0; t < turn; t++) {
            if (touched(r, t) == here) {
                return false;
            }
        }
        return true;
    }

    private boolean mustPrecede(int t, int u) {
        for (int r = 0; r < count; r++) {
            for (int s = 0; s < count; s++) {
                if (isClash(r, s, t, u)) {
                    return true;
                }
            }
        }
        return false;
    }
}
