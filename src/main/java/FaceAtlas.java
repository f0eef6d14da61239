/**
 * A plane with line segments that meet at their ends alone, and the faces into which they cut it.
 *
 * Each segment k is held as two arrows: 2k from its left end to its right one (from its lower end
 * to its upper one, if both have the same x), and 2k + 1 back. An arrow also stands for the side
 * on its left, so 2k is the upper side (or left one) of segment k and 2k + 1 the other one.
 */
public final class FaceAtlas {
    public static final int NONE = -1;
    public static final int BAD = -2;
    public static final int FULL = -3;
    public static final int INSIDE = 100, VERTEX = 200;

    private static final int LIMIT = 20;
    private static final int REACH = 100;
    private static final int MEETS = -10;
    private static final int ARROWS = 2 * LIMIT;
    /** Stands among the sides for the far-off points, so that the face without bounds has a name. */
    private static final int FAR = ARROWS;

    private final SegmentMap map;
    private final Groups sidesByFace;
    private final Groups segmentsByPart;

    public FaceAtlas() {
        map = new SegmentMap();
        sidesByFace = new Groups(ARROWS + 1);
        segmentsByPart = new Groups(LIMIT);
    }

    public int add(int x, int y, int u, int v) {
        if (!isNearby(x, y) || !isNearby(u, v) || (x == u && y == v)) {
            return BAD;
        }
        int k = map.leastUnusedNumber();
        if (k == NONE) {
            return FULL;
        }
        map.sketch(k, x, y, u, v);
        int met = map.leastMeeting(k);
        if (met != NONE) {
            return MEETS - met;
        }
        map.setUsed(k, true);
        regroup();
        return k;
    }

    public boolean remove(int k) {
        if (!map.has(k)) {
            return false;
        }
        map.setUsed(k, false);
        regroup();
        return true;
    }

    public int segments() {
        int count = 0;
        for (int k = 0; k < LIMIT; k++) {
            if (map.has(k)) {
                count++;
            }
        }
        return count;
    }

    public int vertices() {
        int count = 0;
        for (int a = 0; a < ARROWS; a++) {
            if (map.hasArrow(a) && map.isFirstOfItsVertex(a)) {
                count++;
            }
        }
        return count;
    }

    public int parts() {
        int count = 0;
        for (int k = 0; k < LIMIT; k++) {
            if (map.has(k) && segmentsByPart.isLeader(k)) {
                count++;
            }
        }
        return count;
    }

    public int faces() {
        int count = sidesByFace.isLeader(FAR) ? 1 : 0;
        for (int a = 0; a < ARROWS; a++) {
            if (map.hasArrow(a) && sidesByFace.isLeader(a)) {
                count++;
            }
        }
        return count;
    }

    public int find(int x, int y) {
        if (!isNearby(x, y)) {
            return BAD;
        }
        int ends = map.endsAt(x, y);
        if (ends > 0) {
            return VERTEX + ends;
        }
        int around = map.segmentAround(x, y);
        return around != NONE ? INSIDE + around : map.struckAbove(x, y);
    }

    public boolean same(int x, int y, int u, int v) {
        int one = sideSeenFrom(x, y);
        int other = sideSeenFrom(u, v);
        return one >= 0 && other >= 0 && sidesByFace.together(one, other);
    }

    public int area(int x, int y) {
        int seen = sideSeenFrom(x, y);
        if (seen < 0) {
            return seen;
        }
        if (sidesByFace.together(seen, FAR)) {
            return 0;
        }
        // The face lies left of all its arrows: the outer ones go round it against the clock and
        // those of its holes with the clock, so the holes take their areas away by themselves.
        int twice = 0;
        for (int a = 0; a < ARROWS; a++) {
            if (map.hasArrow(a) && sidesByFace.together(seen, a)) {
                twice += map.sweep(a);
            }
        }
        return twice;
    }

    public int border(int x, int y) {
        int seen = sideSeenFrom(x, y);
        if (seen < 0) {
            return seen;
        }
        int count = 0;
        for (int a = 0; a < ARROWS; a++) {
            if (map.hasArrow(a) && sidesByFace.together(seen, a)) {
                count++;
            }
        }
        return count;
    }

    public int touches(int x, int y, int k) {
        int seen = sideSeenFrom(x, y);
        if (seen < 0) {
            return seen;
        }
        if (!map.has(k)) {
            return NONE;
        }
        int upper = sidesByFace.together(seen, 2 * k) ? 1 : 0;
        int lower = sidesByFace.together(seen, 2 * k + 1) ? 2 : 0;
        return upper + lower;
    }

    private static boolean isNearby(int x, int y) {
        return x >= -REACH && x <= REACH && y >= -REACH && y <= REACH;
    }

    /** A side (or FAR) on which the point's face borders; BAD or NONE if the point has no face to tell. */
    private int sideSeenFrom(int x, int y) {
        if (!isNearby(x, y)) {
            return BAD;
        }
        if (map.endsAt(x, y) > 0 || map.segmentAround(x, y) != NONE) {
            return NONE;
        }
        return map.sideAbove(x, y);
    }

    private void regroup() {
        sidesByFace.scatter();
        segmentsByPart.scatter();
        for (int a = 0; a < ARROWS; a++) {
            if (map.hasArrow(a)) {
                joinWithNextAroundTail(a);
                joinWithWhatIsAbove(a);
            }
        }
    }

    private void joinWithNextAroundTail(int a) {
        int next = map.sideFacing(a, map.stepX(a), map.stepY(a));
        sidesByFace.join(a, next);
        segmentsByPart.join(a / 2, next / 2);
    }

    /**
     * Ties the outer rim of a part to the face that holds the part. The highest vertex of each part
     * is a peak, and what lies above it is FAR or of a part that is higher still.
     */
    private void joinWithWhatIsAbove(int a) {
        if (map.startsAtPeak(a)) {
            int rim = map.sideFacing(a, 0, 1);
            sidesByFace.join(rim, map.sideAbove(map.tailX(a), map.tailY(a)));
        }
    }

    /** The segments with their numbers, and what can be told by looking at them from one place. */
    private static final class SegmentMap {
        private final boolean[] used = new boolean[LIMIT];
        private final int[] xs = new int[ARROWS];
        private final int[] ys = new int[ARROWS];

        boolean has(int k) {
            return k >= 0 && k < LIMIT && used[k];
        }

        boolean hasArrow(int a) {
            return used[a / 2];
        }

        int tailX(int a) {
            return xs[a];
        }

        int tailY(int a) {
            return ys[a];
        }

        int stepX(int a) {
            return xs[a ^ 1] - xs[a];
        }

        int stepY(int a) {
            return ys[a ^ 1] - ys[a];
        }

        int leastUnusedNumber() {
            for (int k = 0; k < LIMIT; k++) {
                if (!used[k]) {
                    return k;
                }
            }
            return NONE;
        }

        /** Writes ends under an unused number; until it is set as used, nobody else sees them. */
        void sketch(int k, int x, int y, int u, int v) {
            boolean inOrder = x < u || (x == u && y < v);
            int first = inOrder ? 2 * k : 2 * k + 1;
            xs[first] = x;
            ys[first] = y;
            xs[first ^ 1] = u;
            ys[first ^ 1] = v;
        }

        void setUsed(int k, boolean now) {
            used[k] = now;
        }

        int leastMeeting(int sketched) {
            for (int k = 0; k < LIMIT; k++) {
                if (used[k] && meet(k, sketched)) {
                    return k;
                }
            }
            return NONE;
        }

        private boolean meet(int k, int m) {
            return haveSameEnds(k, m)
                || holdsAnEndOf(k, m)
                || holdsAnEndOf(m, k)
                || (partsTheEndsOf(k, m) && partsTheEndsOf(m, k));
        }

        /** Ends are in order, so the same two ends stand in the same two places. */
        private boolean haveSameEnds(int k, int m) {
            return sameTail(2 * k, 2 * m) && sameTail(2 * k + 1, 2 * m + 1);
        }

        private boolean holdsAnEndOf(int k, int m) {
            return isInside(k, xs[2 * m], ys[2 * m]) || isInside(k, xs[2 * m + 1], ys[2 * m + 1]);
        }

        private boolean partsTheEndsOf(int k, int m) {
            int one = leftness(k, xs[2 * m], ys[2 * m]);
            int other = leftness(k, xs[2 * m + 1], ys[2 * m + 1]);
            return (one < 0 && other > 0) || (one > 0 && other < 0);
        }

        private boolean isInside(int k, int x, int y) {
            int a = 2 * k;
            int b = 2 * k + 1;
            // On the line of both ends, these lie in opposite directions only from between them.
            return leftness(k, x, y) == 0
                && (xs[a] - x) * (xs[b] - x) + (ys[a] - y) * (ys[b] - y) < 0;
        }

        /** More than 0 for a point left of the arrow 2k, 0 on its line, less than 0 right of it. */
        private int leftness(int k, int x, int y) {
            int a = 2 * k;
            return cross(stepX(a), stepY(a), x - xs[a], y - ys[a]);
        }

        private boolean sameTail(int a, int b) {
            return xs[a] == xs[b] && ys[a] == ys[b];
        }

        boolean isFirstOfItsVertex(int a) {
            for (int b = 0; b < a; b++) {
                if (used[b / 2] && sameTail(a, b)) {
                    return false;
                }
            }
            return true;
        }

        boolean startsAtPeak(int a) {
            for (int b = 0; b < ARROWS; b++) {
                if (used[b / 2] && sameTail(a, b) && stepY(b) > 0) {
                    return false;
                }
            }
            return true;
        }

        int endsAt(int x, int y) {
            int count = 0;
            for (int a = 0; a < ARROWS; a++) {
                if (used[a / 2] && xs[a] == x && ys[a] == y) {
                    count++;
                }
            }
            return count;
        }

        /** The segment in whose inside the point is, or NONE. */
        int segmentAround(int x, int y) {
            for (int k = 0; k < LIMIT; k++) {
                if (used[k] && isInside(k, x, y)) {
                    return k;
                }
            }
            return NONE;
        }

        /** The least segment with the first point that the ray upwards strikes, its start left out. */
        int struckAbove(int x, int y) {
            int best = NONE;
            int bestRise = 0;
            int bestRun = 1;
            for (int k = 0; k < LIMIT; k++) {
                int a = 2 * k;
                if (!used[k] || x < xs[a] || x > xs[a + 1]) {
                    continue;
                }
                // The way up to the segment is rise / run; an upright one is struck at its lower end.
                int run = Math.max(1, stepX(a));
                int rise = (ys[a] - y) * run + stepY(a) * (x - xs[a]);
                if (rise > 0 && (best == NONE || rise * bestRun < bestRise * run)) {
                    best = k;
                    bestRise = rise;
                    bestRun = run;
                }
            }
            return best;
        }

        /** The side that is seen straight above a free point or a peak, or FAR. */
        int sideAbove(int x, int y) {
            int k = struckAbove(x, y);
            if (k == NONE) {
                return FAR;
            }
            int leftEnd = 2 * k;
            int rightEnd = 2 * k + 1;
            if (x > xs[leftEnd] && x < xs[rightEnd]) {
                return rightEnd;
            }
            return sideFacing(x == xs[leftEnd] ? leftEnd : rightEnd, 0, -1);
        }

        /** The side that is met first on turning left from a direction, round the tail of an arrow. */
        int sideFacing(int arrow, int dx, int dy) {
            int first = arrow;
            for (int a = 0; a < ARROWS; a++) {
                if (used[a / 2] && sameTail(a, arrow) && comesSooner(a, first, dx, dy)) {
                    first = a;
                }
            }
            return first ^ 1;
        }

        private boolean comesSooner(int a, int b, int dx, int dy) {
            int rankA = turnRank(dx, dy, stepX(a), stepY(a));
            int rankB = turnRank(dx, dy, stepX(b), stepY(b));
            if (rankA != rankB) {
                return rankA < rankB;
            }
            return cross(stepX(a), stepY(a), stepX(b), stepY(b)) > 0;
        }

        /**
         * How far one turns left from (dx, dy) to (px, py): 1 for less than half a turn, 2 for just
         * half, 3 for more, 4 for a whole turn (the same direction is reached last, not at once).
         */
        private static int turnRank(int dx, int dy, int px, int py) {
            int left = dx * py - dy * px;
            if (left != 0) {
                return left > 0 ? 1 : 3;
            }
            return dx * px + dy * py < 0 ? 2 : 4;
        }

        /** Twice the area, with its sign, that the ray from (0, 0) sweeps over along an arrow. */
        int sweep(int a) {
            return cross(xs[a], ys[a], xs[a ^ 1], ys[a ^ 1]);
        }

        private static int cross(int px, int py, int qx, int qy) {
            return px * qy - py * qx;
        }
    }

    /** The numbers from 0 on in groups; each group bears the number of one of its own, its leader. */
    private static final class Groups {
        private final int[] leaders;

        Groups(int size) {
            leaders = new int[size];
            scatter();
        }

        void scatter() {
            for (int i = 0; i < leaders.length; i++) {
                leaders[i] = i;
            }
        }

        void join(int i, int j) {
            int from = leaders[i];
            int to = leaders[j];
            if (from == to) {
                return;
            }
            for (int m = 0; m < leaders.length; m++) {
                if (leaders[m] == from) {
                    leaders[m] = to;
                }
            }
        }

        boolean together(int i, int j) {
            return leaders[i] == leaders[j];
        }

        boolean isLeader(int i) {
            return leaders[i] == i;
        }
    }
}
